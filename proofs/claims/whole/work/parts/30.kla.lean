abbrev rm_X4_isTable : Room := { frames := 0, cells := 0, slots := 0, locals := 0 }
set_option maxHeartbeats 4000000 in
set_option maxRecDepth 100000 in
theorem c_X4_isTable (l : Launch) (G : kl_G) (B : Nat) (w : kl_M) {nT nW nM : Nat} {rs : Int32} {nL nS nC : Nat} (t : Int32) (k0 : w 0 = some (.inr (4, [.ref (B + 1), .int (nI nT), .ref (B + 2), .int (nI nL), .ref (B + 3), .int (nI nS), .ref (B + 4), .int (nI nC), .ref (B + 5), .int (nI nW), .ref (B + 6), .ref (B + 9), .ref (B + 12), .int (nI nM), .ref (B + 13), .int rs]))) (hn : nT ≤ 4) : Met l yX4_isTable wsX4_isTable rm_X4_isTable (kl_Pc G B w [.ref (B + 0), .int t]) (kl_Qi G B (fun r w1 => w = w1 ∧ kl_b r (mt_tab t nT))) 0 0 (kl_fr B) := by
  refine Met.ofW (cc := cX4_isTable) (maxL := 2) (ret := (some .boolean)) (by decide) rfl ?_
  intro pg e s m args below meth cd s₁ Bd hml hv
  obtain ⟨rfl, hP0, hK⟩ := hv
  have hx := Bd.exec
  have hb := Bd.bytes
  have hr := Bd.returns
  have hts := atoms_spec (ws := wsX4_isTable) Bd.pre
  have hown : s.vm.findClass RX4 = some m.cls := findClass_of_methodNamed Bd.named
  have hlocks := Bd.notSynchronized
  have hinX4 : ∀ w ∈ u_ws RX4 TX4 16, w ∈ wsX4_isTable := by decide +kernel
  have hP := kl_S.rf hP0
  have hl := lv_entry ([.ref (B + 0), .int t]) (n := 2) (Nat.le_of_ble_eq_true rfl)
  rw [lg_entry_eq]
  generalize (lg_sl ([.ref (B + 0), .int t]) ++ List.replicate (2 - (lg_sl ([.ref (B + 0), .int t])).length) Slot.unset).toArray = ls at hl ⊢
  have hl : lv_has ls 2 [(0, .ref (B + 0)), (1, .int t)] := hl
  refine lv_iload_n hx hb dX4_isTable_0 rfl (lv_at hl 1 rfl) ?_
  refine lv_if_lt (tgt := 16) hx hb dX4_isTable_1 (by decide) (fun c1 => ?_) (fun c1 => ?_)
  · refine lv_iconst (v := nI 0) hx hb dX4_isTable_16 (by decide) ?_
    exact kl_zret hx hb hr hlocks (by decide) hP ⟨rfl, kl_b.f (mt_tab_n0 (by omega) c1)⟩ dX4_isTable_17
  · refine lv_iload_n hx hb dX4_isTable_4 rfl (lv_at hl 1 rfl) ?_
    refine lv_aload_n hx hb dX4_isTable_5 rfl (lv_at hl 0 rfl) ?_
    refine kl_get (C := RX4) (T := TX4) (N := 16) (ci := 4) hx hb hts hinX4 hown hK hP k0 rfl 1 (by decide) (hts (.fieldLink RX4 13 "KinLedger" "tableCount" "I") (by decide +kernel)) (fun _ h9 => h9) rfl dX4_isTable_6 ?_
    refine lv_icmp_ge (tgt := 16) hx hb dX4_isTable_9 (by decide) (fun c9 => ?_) (fun c9 => ?_)
    · refine lv_iconst (v := nI 0) hx hb dX4_isTable_16 (by decide) ?_
      exact kl_zret hx hb hr hlocks (by decide) hP ⟨rfl, kl_b.f (mt_tab_n1 (by omega) c9)⟩ dX4_isTable_17
    · refine lv_iconst (v := nI 1) hx hb dX4_isTable_12 (by decide) ?_
      refine lv_goto (tgt := 17) hx hb dX4_isTable_13 (by decide) ?_
      exact kl_zret hx hb hr hlocks (by decide) hP ⟨rfl, kl_b.t (mt_tab_y (by omega) c1 c9)⟩ dX4_isTable_17

abbrev rm_X4_isColumn : Room := { frames := 1, cells := 0, slots := 0, locals := 21 }
set_option maxHeartbeats 4000000 in
set_option maxRecDepth 100000 in
theorem c_X4_isColumn (l : Launch) (G : kl_G) (B : Nat) (w : kl_M) {nT nW nM : Nat} {rs : Int32} {nL nS nC : Nat} {cn : Nat → Nat} (t c : Int32) (k0 : w 0 = some (.inr (4, [.ref (B + 1), .int (nI nT), .ref (B + 2), .int (nI nL), .ref (B + 3), .int (nI nS), .ref (B + 4), .int (nI nC), .ref (B + 5), .int (nI nW), .ref (B + 6), .ref (B + 9), .ref (B + 12), .int (nI nM), .ref (B + 13), .int rs]))) (k1 : w 1 = some (kl_aI G 4 ((fun t => nI (cn t))))) (hn : nT ≤ 4) (hcn : ∀ j, j < nT → cn j ≤ 4) : Met l yX4_isColumn wsX4_isColumn rm_X4_isColumn (kl_Pc G B w [.ref (B + 0), .int t, .int c]) (kl_Qi G B (fun r w1 => w = w1 ∧ kl_b r (mt_col t c nT cn))) 0 0 (kl_fr B) := by
  refine Met.ofW (cc := cX4_isColumn) (maxL := 3) (ret := (some .boolean)) (by decide) rfl ?_
  intro pg e s m args below meth cd s₁ Bd hml hv
  obtain ⟨rfl, hP0, hK⟩ := hv
  have hx := Bd.exec
  have hb := Bd.bytes
  have hr := Bd.returns
  have hts := atoms_spec (ws := wsX4_isColumn) Bd.pre
  have hown : s.vm.findClass RX4 = some m.cls := findClass_of_methodNamed Bd.named
  have hlocks := Bd.notSynchronized
  have hinX4 : ∀ w ∈ u_ws RX4 TX4 16, w ∈ wsX4_isColumn := by decide +kernel
  have hP := kl_S.rf hP0
  have hl := lv_entry ([.ref (B + 0), .int t, .int c]) (n := 3) (Nat.le_of_ble_eq_true rfl)
  rw [lg_entry_eq]
  generalize (lg_sl ([.ref (B + 0), .int t, .int c]) ++ List.replicate (3 - (lg_sl ([.ref (B + 0), .int t, .int c])).length) Slot.unset).toArray = ls at hl ⊢
  have hl : lv_has ls 3 [(0, .ref (B + 0)), (1, .int t), (2, .int c)] := hl
  refine lv_aload_n hx hb dX4_isColumn_0 rfl (lv_at hl 0 rfl) ?_
  refine lv_iload_n hx hb dX4_isColumn_1 rfl (lv_at hl 1 rfl) ?_
  refine kl_cVi (C := RX4) (i := 0) (As := [.int t]) (rest := []) ⟨hx, hb, hml, hown, hts⟩ (c_X4_isTable l G B _ t k0 (by omega)) (cwV 1 hts gX4_isColumn_X4_isTable rfl rfl rfl (by decide +kernel) ⟨Nat.le_of_ble_eq_true rfl, Nat.le_of_ble_eq_true rfl⟩) hK hP k0 rfl rfl hl.1 rfl (Nat.le_of_ble_eq_true rfl) dX4_isColumn_2 ⟨Nat.le_of_ble_eq_true rfl, Nat.le_of_ble_eq_true rfl⟩ (fun r3 w1 H locs q2 hP => ?_)
  obtain ⟨rfl, hv4⟩ := q2
  refine kl_ifeq (tgt := 26) hx hb hv4 dX4_isColumn_5 (by decide) (fun c5 => ?_) (fun c5 => ?_)
  · refine lv_iconst (v := nI 0) hx hb dX4_isColumn_26 (by decide) ?_
    exact kl_zret hx hb hr hlocks (by decide) hP ⟨rfl, kl_b.f (fun z => c5 (mt_col_tab z))⟩ dX4_isColumn_27
  · obtain ⟨j, hj, rfl⟩ := c5
    refine lv_iload_n hx hb dX4_isColumn_8 rfl (lv_at hl 2 rfl) ?_
    refine lv_if_lt (tgt := 26) hx hb dX4_isColumn_9 (by decide) (fun c9 => ?_) (fun c9 => ?_)
    · refine lv_iconst (v := nI 0) hx hb dX4_isColumn_26 (by decide) ?_
      exact kl_zret hx hb hr hlocks (by decide) hP ⟨rfl, kl_b.f (fun ⟨j2, k2, z1, z2, z3, z4⟩ => by have := hcn j2 z1; rw [z4] at c9; exact nI_pos (by omega) c9)⟩ dX4_isColumn_27
    · obtain ⟨k, hk, rfl⟩ := nI_of c9
      have hcj := hcn j (by omega)
      refine lv_iload_n hx hb dX4_isColumn_12 rfl (lv_at hl 2 rfl) ?_
      refine lv_aload_n hx hb dX4_isColumn_13 rfl (lv_at hl 0 rfl) ?_
      refine kl_get (C := RX4) (T := TX4) (N := 16) (ci := 4) hx hb hts hinX4 hown hK hP k0 rfl 0 (by decide) (hts (.fieldLink RX4 9 "KinLedger" "columnCounts" "[I") (by decide +kernel)) (fun _ h9 => h9) rfl dX4_isColumn_14 ?_
      refine lv_iload_n hx hb dX4_isColumn_17 rfl (lv_at hl 1 rfl) ?_
      refine kl_iald hx hb hK hP k1 (by omega) (by omega) dX4_isColumn_18 ?_
      refine kl_top (z := nI (cn j)) rfl ?_
      refine kl_ge (tgt := 26) hx hb (by omega) (by omega) dX4_isColumn_19 (by decide) (fun c19 => ?_) (fun c19 => ?_)
      · refine lv_iconst (v := nI 0) hx hb dX4_isColumn_26 (by decide) ?_
        exact kl_zret hx hb hr hlocks (by decide) hP ⟨rfl, kl_b.f (fun ⟨j2, k2, z1, z2, z3, z4⟩ => by have h9 := hcn j2 z1; have e1 := (nI_eq (by omega) (by omega)).mp z2; have e2 := (nI_eq hk (by omega)).mp z4; subst e1; omega)⟩ dX4_isColumn_27
      · refine lv_iconst (v := nI 1) hx hb dX4_isColumn_22 (by decide) ?_
        refine lv_goto (tgt := 27) hx hb dX4_isColumn_23 (by decide) ?_
        exact kl_zret hx hb hr hlocks (by decide) hP ⟨rfl, kl_b.t ⟨j, k, hj, rfl, c19, rfl⟩⟩ dX4_isColumn_27

abbrev rm_X4_isCellColumn : Room := { frames := 2, cells := 0, slots := 0, locals := 43 }
set_option maxHeartbeats 4000000 in
set_option maxRecDepth 100000 in
theorem c_X4_isCellColumn (l : Launch) (G : kl_G) (B : Nat) (w : kl_M) {nT nW nM : Nat} {rs : Int32} {nL nS nC : Nat} {cn : Nat → Nat} (t c : Int32) (k0 : w 0 = some (.inr (4, [.ref (B + 1), .int (nI nT), .ref (B + 2), .int (nI nL), .ref (B + 3), .int (nI nS), .ref (B + 4), .int (nI nC), .ref (B + 5), .int (nI nW), .ref (B + 6), .ref (B + 9), .ref (B + 12), .int (nI nM), .ref (B + 13), .int rs]))) (k1 : w 1 = some (kl_aI G 4 ((fun t => nI (cn t))))) (hn : nT ≤ 4) (hcn4 : ∀ j, j < nT → cn j ≤ 4) : Met l yX4_isCellColumn wsX4_isCellColumn rm_X4_isCellColumn (kl_Pc G B w [.ref (B + 0), .int t, .int c]) (kl_Qi G B (fun r w1 => w = w1 ∧ kl_b r (mt_col t c nT cn ∧ c ≠ 0))) 0 0 (kl_fr B) := by
  refine Met.ofW (cc := cX4_isCellColumn) (maxL := 3) (ret := (some .boolean)) (by decide) rfl ?_
  intro pg e s m args below meth cd s₁ Bd hml hv
  obtain ⟨rfl, hP0, hK⟩ := hv
  have hx := Bd.exec
  have hb := Bd.bytes
  have hr := Bd.returns
  have hts := atoms_spec (ws := wsX4_isCellColumn) Bd.pre
  have hown : s.vm.findClass RX4 = some m.cls := findClass_of_methodNamed Bd.named
  have hlocks := Bd.notSynchronized
  have hP := kl_S.rf hP0
  have hl := lv_entry ([.ref (B + 0), .int t, .int c]) (n := 3) (Nat.le_of_ble_eq_true rfl)
  rw [lg_entry_eq]
  generalize (lg_sl ([.ref (B + 0), .int t, .int c]) ++ List.replicate (3 - (lg_sl ([.ref (B + 0), .int t, .int c])).length) Slot.unset).toArray = ls at hl ⊢
  have hl : lv_has ls 3 [(0, .ref (B + 0)), (1, .int t), (2, .int c)] := hl
  refine lv_aload_n hx hb dX4_isCellColumn_0 rfl (lv_at hl 0 rfl) ?_
  refine lv_iload_n hx hb dX4_isCellColumn_1 rfl (lv_at hl 1 rfl) ?_
  refine lv_iload_n hx hb dX4_isCellColumn_2 rfl (lv_at hl 2 rfl) ?_
  refine kl_cVi (C := RX4) (i := 0) (As := [.int t, .int c]) (rest := []) ⟨hx, hb, hml, hown, hts⟩ (c_X4_isColumn l G B _ t c k0 k1 (by omega) hcn4) (cwV 2 hts gX4_isCellColumn_X4_isColumn rfl rfl rfl (by decide +kernel) ⟨Nat.le_of_ble_eq_true rfl, Nat.le_of_ble_eq_true rfl⟩) hK hP k0 rfl rfl hl.1 rfl (Nat.le_of_ble_eq_true rfl) dX4_isCellColumn_3 ⟨Nat.le_of_ble_eq_true rfl, Nat.le_of_ble_eq_true rfl⟩ (fun r3 w1 H locs q2 hP => ?_)
  obtain ⟨rfl, hv4⟩ := q2
  refine kl_ifeq (tgt := 17) hx hb hv4 dX4_isCellColumn_6 (by decide) (fun c6 => ?_) (fun c6 => ?_)
  · refine lv_iconst (v := nI 0) hx hb dX4_isCellColumn_17 (by decide) ?_
    exact kl_zret hx hb hr hlocks (by decide) hP ⟨rfl, kl_b.f (fun z => c6 z.1)⟩ dX4_isCellColumn_18
  · refine lv_iload_n hx hb dX4_isCellColumn_9 rfl (lv_at hl 2 rfl) ?_
    refine lv_if_eq (tgt := 17) hx hb dX4_isCellColumn_10 (by decide) (fun c10 => ?_) (fun c10 => ?_)
    · refine lv_iconst (v := nI 0) hx hb dX4_isCellColumn_17 (by decide) ?_
      exact kl_zret hx hb hr hlocks (by decide) hP ⟨rfl, kl_b.f (fun z => z.2 c10)⟩ dX4_isCellColumn_18
    · refine lv_iconst (v := nI 1) hx hb dX4_isCellColumn_13 (by decide) ?_
      refine lv_goto (tgt := 18) hx hb dX4_isCellColumn_14 (by decide) ?_
      exact kl_zret hx hb hr hlocks (by decide) hP ⟨rfl, kl_b.t ⟨c6, c10⟩⟩ dX4_isCellColumn_18

abbrev rm_X4_needArgument : Room := { frames := 6, cells := 1, slots := 6, locals := 90 }
set_option maxHeartbeats 4000000 in
set_option maxRecDepth 100000 in
theorem c_X4_needArgument (l : Launch) (hst : l.stackTraces = false) (G : kl_G) (B : Nat) (w : kl_M) (r : Int32) {P : Prop} (hbr : kl_b r P) : vx_Met l yX4_needArgument wsX4_needArgument rm_X4_needArgument (kl_Px G B w [.int r]) (kl_Qv G B (fun w1 => w = w1 ∧ P)) (kl_X G B (fun E w1 => E = "java/lang/IllegalArgumentException" ∧ w = w1 ∧ ¬ P)) 1 6 (kl_fr B) := by
  refine vx_ofW (cc := cX4_needArgument) (maxL := 1) (ret := none) (by decide) rfl ?_
  intro pg e s m args below meth cd s₁ Bd hml hout hv
  obtain ⟨rfl, hP0, hK, hZ⟩ := hv
  have hx := Bd.exec
  have hb := Bd.bytes
  have hr := Bd.returns
  have hts := atoms_spec (ws := wsX4_needArgument) Bd.pre
  have hown : s.vm.findClass RX4 = some m.cls := findClass_of_methodNamed Bd.named
  have hlocks := Bd.notSynchronized
  have hP := kl_S.rf hP0
  have hl := lv_entry ([.int r]) (n := 1) (Nat.le_of_ble_eq_true rfl)
  rw [lg_entry_eq]
  generalize (lg_sl ([.int r]) ++ List.replicate (1 - (lg_sl ([.int r])).length) Slot.unset).toArray = ls at hl ⊢
  have hl : lv_has ls 1 [(0, .int r)] := hl
  refine lv_iload_n hx hb dX4_needArgument_0 rfl (lv_at hl 0 rfl) ?_
  refine kl_ifne (tgt := 12) hx hb hbr dX4_needArgument_1 (by decide) (fun c1 => ?_) (fun c1 => ?_)
  · refine W.widen (k := 1) (n := 6) (by omega) (by omega) ?_
    refine vx_ret ?_
    exact kl_vret hx hb hr hlocks hP ⟨rfl, c1⟩ dX4_needArgument_12
  · exact kl_throw hx hb hst hts hown ⟨by decide +kernel, by decide +kernel⟩ (ik := 190) (ic := 192) (cls := "java/lang/IllegalArgumentException") (names := ["java/lang/RuntimeException", "java/lang/Exception"]) (by decide +kernel) (by decide +kernel) (by decide +kernel) (by decide) hK hZ hP (hl.1.trans hml.symm) dX4_needArgument_4 dX4_needArgument_7 dX4_needArgument_8 dX4_needArgument_11 hout (Nat.le_of_ble_eq_true rfl) (Nat.le_of_ble_eq_true rfl) (Nat.le_of_ble_eq_true rfl) (Nat.le_of_ble_eq_true rfl) hlocks ⟨rfl, rfl, c1⟩ (Nat.le_of_ble_eq_true rfl) (Nat.le_of_ble_eq_true rfl)

abbrev rm_X4_needElement : Room := { frames := 6, cells := 1, slots := 6, locals := 90 }
set_option maxHeartbeats 4000000 in
set_option maxRecDepth 100000 in
theorem c_X4_needElement (l : Launch) (hst : l.stackTraces = false) (G : kl_G) (B : Nat) (w : kl_M) (r : Int32) {P : Prop} (hbr : kl_b r P) : vx_Met l yX4_needElement wsX4_needElement rm_X4_needElement (kl_Px G B w [.int r]) (kl_Qv G B (fun w1 => w = w1 ∧ P)) (kl_X G B (fun E w1 => E = "java/util/NoSuchElementException" ∧ w = w1 ∧ ¬ P)) 1 6 (kl_fr B) := by
  refine vx_ofW (cc := cX4_needElement) (maxL := 1) (ret := none) (by decide) rfl ?_
  intro pg e s m args below meth cd s₁ Bd hml hout hv
  obtain ⟨rfl, hP0, hK, hZ⟩ := hv
  have hx := Bd.exec
  have hb := Bd.bytes
  have hr := Bd.returns
  have hts := atoms_spec (ws := wsX4_needElement) Bd.pre
  have hown : s.vm.findClass RX4 = some m.cls := findClass_of_methodNamed Bd.named
  have hlocks := Bd.notSynchronized
  have hP := kl_S.rf hP0
  have hl := lv_entry ([.int r]) (n := 1) (Nat.le_of_ble_eq_true rfl)
  rw [lg_entry_eq]
  generalize (lg_sl ([.int r]) ++ List.replicate (1 - (lg_sl ([.int r])).length) Slot.unset).toArray = ls at hl ⊢
  have hl : lv_has ls 1 [(0, .int r)] := hl
  refine lv_iload_n hx hb dX4_needElement_0 rfl (lv_at hl 0 rfl) ?_
  refine kl_ifne (tgt := 12) hx hb hbr dX4_needElement_1 (by decide) (fun c1 => ?_) (fun c1 => ?_)
  · refine W.widen (k := 1) (n := 6) (by omega) (by omega) ?_
    refine vx_ret ?_
    exact kl_vret hx hb hr hlocks hP ⟨rfl, c1⟩ dX4_needElement_12
  · exact kl_throw hx hb hst hts hown ⟨by decide +kernel, by decide +kernel⟩ (ik := 193) (ic := 195) (cls := "java/util/NoSuchElementException") (names := ["java/lang/RuntimeException", "java/lang/Exception"]) (by decide +kernel) (by decide +kernel) (by decide +kernel) (by decide) hK hZ hP (hl.1.trans hml.symm) dX4_needElement_4 dX4_needElement_7 dX4_needElement_8 dX4_needElement_11 hout (Nat.le_of_ble_eq_true rfl) (Nat.le_of_ble_eq_true rfl) (Nat.le_of_ble_eq_true rfl) (Nat.le_of_ble_eq_true rfl) hlocks ⟨rfl, rfl, c1⟩ (Nat.le_of_ble_eq_true rfl) (Nat.le_of_ble_eq_true rfl)

abbrev rm_X4_refuseIf : Room := { frames := 6, cells := 1, slots := 6, locals := 90 }
set_option maxHeartbeats 4000000 in
set_option maxRecDepth 100000 in
theorem c_X4_refuseIf (l : Launch) (hst : l.stackTraces = false) (G : kl_G) (B : Nat) (w : kl_M) {nT nW nM : Nat} {rs : Int32} {nL nS nC : Nat} (r x : Int32) {P : Prop} (k0 : w 0 = some (.inr (4, [.ref (B + 1), .int (nI nT), .ref (B + 2), .int (nI nL), .ref (B + 3), .int (nI nS), .ref (B + 4), .int (nI nC), .ref (B + 5), .int (nI nW), .ref (B + 6), .ref (B + 9), .ref (B + 12), .int (nI nM), .ref (B + 13), .int rs]))) (hbr : kl_b r P) : vx_Met l yX4_refuseIf wsX4_refuseIf rm_X4_refuseIf (kl_Px G B w [.ref (B + 0), .int r, .int x]) (kl_Qv G B (fun w1 => w = w1 ∧ ¬ P)) (kl_X G B (fun E w1 => E = "java/lang/IllegalStateException" ∧ P ∧ w1 0 = some (.inr (4, [.ref (B + 1), .int (nI nT), .ref (B + 2), .int (nI nL), .ref (B + 3), .int (nI nS), .ref (B + 4), .int (nI nC), .ref (B + 5), .int (nI nW), .ref (B + 6), .ref (B + 9), .ref (B + 12), .int (nI nM), .ref (B + 13), .int x])) ∧ ∀ j, j ≠ 0 → w1 j = w j)) 1 6 (kl_fr B) := by
  refine vx_ofW (cc := cX4_refuseIf) (maxL := 3) (ret := none) (by decide) rfl ?_
  intro pg e s m args below meth cd s₁ Bd hml hout hv
  obtain ⟨rfl, hP0, hK, hZ⟩ := hv
  have hx := Bd.exec
  have hb := Bd.bytes
  have hr := Bd.returns
  have hts := atoms_spec (ws := wsX4_refuseIf) Bd.pre
  have hown : s.vm.findClass RX4 = some m.cls := findClass_of_methodNamed Bd.named
  have hlocks := Bd.notSynchronized
  have hinX4 : ∀ w ∈ u_ws RX4 TX4 16, w ∈ wsX4_refuseIf := by decide +kernel
  have hP := kl_S.rf hP0
  have hl := lv_entry ([.ref (B + 0), .int r, .int x]) (n := 3) (Nat.le_of_ble_eq_true rfl)
  rw [lg_entry_eq]
  generalize (lg_sl ([.ref (B + 0), .int r, .int x]) ++ List.replicate (3 - (lg_sl ([.ref (B + 0), .int r, .int x])).length) Slot.unset).toArray = ls at hl ⊢
  have hl : lv_has ls 3 [(0, .ref (B + 0)), (1, .int r), (2, .int x)] := hl
  have frm : ∀ j : Nat, j ≠ 0 → w j = w j := fun j _ => rfl
  refine lv_iload_n hx hb dX4_refuseIf_0 rfl (lv_at hl 1 rfl) ?_
  refine kl_ifeq (tgt := 17) hx hb hbr dX4_refuseIf_1 (by decide) (fun c1 => ?_) (fun c1 => ?_)
  · refine W.widen (k := 1) (n := 6) (by omega) (by omega) ?_
    refine vx_ret ?_
    exact kl_vret hx hb hr hlocks hP ⟨rfl, c1⟩ dX4_refuseIf_17
  · refine lv_aload_n hx hb dX4_refuseIf_4 rfl (lv_at hl 0 rfl) ?_
    refine lv_iload_n hx hb dX4_refuseIf_5 rfl (lv_at hl 2 rfl) ?_
    refine kl_put (C := RX4) (T := TX4) (N := 16) (ci := 4) (v := .int x) (ty := .int) hx hb hts hinX4 tyX4 tyX4_ok nmX4 hown hK hP k0 rfl 15 (by decide) (hts (.fieldLink RX4 71 "KinLedger" "latestReason" "I") (by decide +kernel)) (fun _ h9 => h9) rfl (by decide +kernel) rfl rfl (Nat.le_of_ble_eq_true rfl) dX4_refuseIf_6 (fun w1 H locs f2 fr3 hzw1 hP => ?_)
    have f2 : w1 0 = some (.inr (4, [.ref (B + 1), .int (nI nT), .ref (B + 2), .int (nI nL), .ref (B + 3), .int (nI nS), .ref (B + 4), .int (nI nC), .ref (B + 5), .int (nI nW), .ref (B + 6), .ref (B + 9), .ref (B + 12), .int (nI nM), .ref (B + 13), .int x])) := f2
    have frm : ∀ j : Nat, j ≠ 0 → w1 j = w j := fun j k0 => (fr3 j k0).trans (frm j k0)
    exact kl_throw hx hb hst hts hown ⟨by decide +kernel, by decide +kernel⟩ (ik := 196) (ic := 198) (cls := "java/lang/IllegalStateException") (names := ["java/lang/RuntimeException", "java/lang/Exception"]) (by decide +kernel) (by decide +kernel) (by decide +kernel) (by decide) hK hZ hP (hl.1.trans hml.symm) dX4_refuseIf_9 dX4_refuseIf_12 dX4_refuseIf_13 dX4_refuseIf_16 hout (Nat.le_of_ble_eq_true rfl) (Nat.le_of_ble_eq_true rfl) (Nat.le_of_ble_eq_true rfl) (Nat.le_of_ble_eq_true rfl) hlocks ⟨rfl, c1, f2, frm⟩ (Nat.le_of_ble_eq_true rfl) (Nat.le_of_ble_eq_true rfl)

abbrev rm_X4_whyBroken : Room := { frames := 4, cells := 0, slots := 0, locals := 91 }
set_option maxHeartbeats 4000000 in
set_option maxRecDepth 100000 in
theorem c_X4_whyBroken (l : Launch) (G : kl_G) (B : Nat) (w : kl_M) (i a b : Nat) {T C : Nat → Int32} {nT nW nM : Nat} {rs : Int32} {nL nS nC : Nat} {lf sf cf : Nat → Option Nat} {la : Nat → Nat} {lch : Nat → Int32} {lco : Nat → Nat} {lpa lwy : Nat → Int32} {sa : Nat → Nat} {stb : Nat → Int32} {sco ca cwa cpa : Nat → Nat} {ctb : Nat → Int32} {cln : Nat → Nat} {cwd : Nat → Nat → Nat} {ccol : Nat → Nat} (k0 : w 0 = some (.inr (4, [.ref (B + 1), .int (nI nT), .ref (B + 2), .int (nI nL), .ref (B + 3), .int (nI nS), .ref (B + 4), .int (nI nC), .ref (B + 5), .int (nI nW), .ref (B + 6), .ref (B + 9), .ref (B + 12), .int (nI nM), .ref (B + 13), .int rs]))) (k2 : w 2 = some (kl_aR G 3 6 lf)) (k3 : w 3 = some (kl_aR G 4 4 sf)) (k4 : w 4 = some (kl_aR G 5 4 cf)) (h0 : w i = some (.inr (2, [.ref (B + a), .ref (B + b)]))) (h1 : w a = some (kl_aI G 24 T)) (h2 : w b = some (kl_aI G 96 C)) (hnn : nT ≤ 4 ∧ nL ≤ 6 ∧ nS ≤ 4 ∧ nC ≤ 4 ∧ nW ≤ 10 ∧ nM ≤ 4) (hru : kl_RU G B w nL lf la lch lco lpa lwy nS sf sa stb sco nC cf ca cwa cpa ctb cln cwd ccol) (hi48 : i < 48 ∧ a < 48 ∧ b < 48) : Met l yX4_whyBroken wsX4_whyBroken rm_X4_whyBroken (kl_Pc G B w [.ref (B + 0), .ref (B + i)]) (kl_Qi G B (fun r w1 => mt_why T C nT nS stb sco nL lch lco lpa nC ctb cwd cln r ∧ kl_RU G B w1 nL lf la lch lco lpa lwy nS sf sa stb sco nC cf ca cwa cpa ctb cln cwd ccol ∧ ∀ j, j < 48 → w1 j = w j)) 0 0 (kl_fr B) := by
  refine Met.ofW (cc := cX4_whyBroken) (maxL := 3) (ret := (some .int)) (by decide) rfl ?_
  intro pg e s m args below meth cd s₁ Bd hml hv
  obtain ⟨rfl, hP0, hK⟩ := hv
  have hx := Bd.exec
  have hb := Bd.bytes
  have hr := Bd.returns
  have hts := atoms_spec (ws := wsX4_whyBroken) Bd.pre
  have hown : s.vm.findClass RX4 = some m.cls := findClass_of_methodNamed Bd.named
  have hlocks := Bd.notSynchronized
  have hinX4 : ∀ w ∈ u_ws RX4 TX4 16, w ∈ wsX4_whyBroken := by decide +kernel
  have hP := kl_S.rf hP0
  have hl := lv_entry ([.ref (B + 0), .ref (B + i)]) (n := 3) (Nat.le_of_ble_eq_true rfl)
  rw [lg_entry_eq]
  generalize (lg_sl ([.ref (B + 0), .ref (B + i)]) ++ List.replicate (3 - (lg_sl ([.ref (B + 0), .ref (B + i)])).length) Slot.unset).toArray = ls at hl ⊢
  have hl : lv_has ls 3 [(0, .ref (B + 0)), (1, .ref (B + i))] := hl
  have frm : ∀ j : Nat, j < 48 → w j = w j := fun j _  => rfl
  obtain ⟨m1, m2, m3, m4, m5, m6⟩ := hnn
  obtain ⟨i1, i2, i3⟩ := hi48
  refine lv_iconst (v := nI 0) hx hb dX4_whyBroken_0 (by decide) ?_
  refine lv_istore_n (lv' := [(2, .int (nI 0)), (0, .ref (B + 0)), (1, .ref (B + i))]) hx hb dX4_whyBroken_1 rfl hl (by decide) rfl (fun ls hl => ?_)
  have lp2 : ∀ (n2 : Nat) (x : Nat), nT - x < n2 → (x ≤ nT) → (∀ j, j < x → ¬ mt_twin T C (nI j) 0) → ∀ (w1 : kl_M) (H : Heap) (locs : List Loc), w1 0 = some (.inr (4, [.ref (B + 1), .int (nI nT), .ref (B + 2), .int (nI nL), .ref (B + 3), .int (nI nS), .ref (B + 4), .int (nI nC), .ref (B + 5), .int (nI nW), .ref (B + 6), .ref (B + 9), .ref (B + 12), .int (nI nM), .ref (B + 13), .int rs])) → w1 2 = some (kl_aR G 3 6 lf) → w1 3 = some (kl_aR G 4 4 sf) → w1 4 = some (kl_aR G 5 4 cf) → w1 i = some (.inr (2, [.ref (B + a), .ref (B + b)])) → w1 a = some (kl_aI G 24 T) → w1 b = some (kl_aI G 96 C) → (kl_RU G B w1 nL lf la lch lco lpa lwy nS sf sa stb sco nC cf ca cwa cpa ctb cln cwd ccol) → (∀ j : Nat, j < 48 → w1 j = w j) → kl_S G B w1 s.heap H locs → ∀ ls : Array Slot, lv_has ls 3 [(0, .ref (B + 0)), (1, .ref (B + i)), (2, .int (nI x))] → W pg l e rm_X4_whyBroken s m ([.ref (B + 0), .ref (B + i)] : List Value).toArray below meth cd H locs (0) (0) (MQ below (kl_Qi G B (fun r w1 => mt_why T C nT nS stb sco nL lch lco lpa nC ctb cwd cln r ∧ kl_RU G B w1 nL lf la lch lco lpa lwy nS sf sa stb sco nC cf ca cwa cpa ctb cln cwd ccol ∧ ∀ j, j < 48 → w1 j = w j)) ([.ref (B + 0), .ref (B + i)] : List Value).toArray s 0 0 (kl_fr B)) (F0 m 2 ls []) := by
    intro n2
    induction n2 with
    | zero => intro x hm; exact absurd hm (Nat.not_lt_zero _)
    | succ n2 ih2 =>
      intro x hm hx9 hna w1 H locs k0 k2 k3 k4 h0 h1 h2 hru frm hP ls hl
      refine lv_iload_n hx hb dX4_whyBroken_2 rfl (lv_at hl 2 rfl) ?_
      refine lv_aload_n hx hb dX4_whyBroken_3 rfl (lv_at hl 0 rfl) ?_
      refine kl_get (C := RX4) (T := TX4) (N := 16) (ci := 4) hx hb hts hinX4 hown hK hP k0 rfl 1 (by decide) (hts (.fieldLink RX4 13 "KinLedger" "tableCount" "I") (by decide +kernel)) (fun _ h9 => h9) rfl dX4_whyBroken_4 ?_
      refine kl_ge (tgt := 31) hx hb (by omega) (by omega) dX4_whyBroken_7 (by decide) (fun c7 => ?_) (fun c7 => ?_)
      · refine lv_iconst (v := nI 0) hx hb dX4_whyBroken_31 (by decide) ?_
        refine lv_istore_n (lv' := [(2, .int (nI 0)), (0, .ref (B + 0)), (1, .ref (B + i))]) hx hb dX4_whyBroken_32 rfl hl (by decide) rfl (fun ls hl => ?_)
        have lp33 : ∀ (n33 : Nat) (x : Nat), nS - x < n33 → (x ≤ nS) → (∀ j, j < x → ¬ mt_twin T C (stb j) (sco j)) → ∀ (w1 : kl_M) (H : Heap) (locs : List Loc), w1 0 = some (.inr (4, [.ref (B + 1), .int (nI nT), .ref (B + 2), .int (nI nL), .ref (B + 3), .int (nI nS), .ref (B + 4), .int (nI nC), .ref (B + 5), .int (nI nW), .ref (B + 6), .ref (B + 9), .ref (B + 12), .int (nI nM), .ref (B + 13), .int rs])) → w1 2 = some (kl_aR G 3 6 lf) → w1 3 = some (kl_aR G 4 4 sf) → w1 4 = some (kl_aR G 5 4 cf) → w1 i = some (.inr (2, [.ref (B + a), .ref (B + b)])) → w1 a = some (kl_aI G 24 T) → w1 b = some (kl_aI G 96 C) → (kl_RU G B w1 nL lf la lch lco lpa lwy nS sf sa stb sco nC cf ca cwa cpa ctb cln cwd ccol) → (∀ j : Nat, j < 48 → w1 j = w j) → kl_S G B w1 s.heap H locs → ∀ ls : Array Slot, lv_has ls 3 [(0, .ref (B + 0)), (1, .ref (B + i)), (2, .int (nI x))] → W pg l e rm_X4_whyBroken s m ([.ref (B + 0), .ref (B + i)] : List Value).toArray below meth cd H locs (0) (0) (MQ below (kl_Qi G B (fun r w1 => mt_why T C nT nS stb sco nL lch lco lpa nC ctb cwd cln r ∧ kl_RU G B w1 nL lf la lch lco lpa lwy nS sf sa stb sco nC cf ca cwa cpa ctb cln cwd ccol ∧ ∀ j, j < 48 → w1 j = w j)) ([.ref (B + 0), .ref (B + i)] : List Value).toArray s 0 0 (kl_fr B)) (F0 m 33 ls []) := by
          intro n33
          induction n33 with
          | zero => intro x hm; exact absurd hm (Nat.not_lt_zero _)
          | succ n33 ih33 =>
            intro x hm hx9 hnb w1 H locs k0 k2 k3 k4 h0 h1 h2 hru frm hP ls hl
            refine lv_iload_n hx hb dX4_whyBroken_33 rfl (lv_at hl 2 rfl) ?_
            refine lv_aload_n hx hb dX4_whyBroken_34 rfl (lv_at hl 0 rfl) ?_
            refine kl_get (C := RX4) (T := TX4) (N := 16) (ci := 4) hx hb hts hinX4 hown hK hP k0 rfl 5 (by decide) (hts (.fieldLink RX4 32 "KinLedger" "singleCount" "I") (by decide +kernel)) (fun _ h9 => h9) rfl dX4_whyBroken_35 ?_
            refine kl_ge (tgt := 66) hx hb (by omega) (by omega) dX4_whyBroken_38 (by decide) (fun c38 => ?_) (fun c38 => ?_)
            · refine lv_iconst (v := nI 0) hx hb dX4_whyBroken_66 (by decide) ?_
              refine lv_istore_n (lv' := [(2, .int (nI 0)), (0, .ref (B + 0)), (1, .ref (B + i))]) hx hb dX4_whyBroken_67 rfl hl (by decide) rfl (fun ls hl => ?_)
              have lp68 : ∀ (n68 : Nat) (x : Nat), nL - x < n68 → (x ≤ nL) → (∀ j, j < x → ¬ mt_lbrk T C (lch j) (lco j) (lpa j)) → ∀ (w1 : kl_M) (H : Heap) (locs : List Loc), w1 0 = some (.inr (4, [.ref (B + 1), .int (nI nT), .ref (B + 2), .int (nI nL), .ref (B + 3), .int (nI nS), .ref (B + 4), .int (nI nC), .ref (B + 5), .int (nI nW), .ref (B + 6), .ref (B + 9), .ref (B + 12), .int (nI nM), .ref (B + 13), .int rs])) → w1 2 = some (kl_aR G 3 6 lf) → w1 3 = some (kl_aR G 4 4 sf) → w1 4 = some (kl_aR G 5 4 cf) → w1 i = some (.inr (2, [.ref (B + a), .ref (B + b)])) → w1 a = some (kl_aI G 24 T) → w1 b = some (kl_aI G 96 C) → (kl_RU G B w1 nL lf la lch lco lpa lwy nS sf sa stb sco nC cf ca cwa cpa ctb cln cwd ccol) → (∀ j : Nat, j < 48 → w1 j = w j) → kl_S G B w1 s.heap H locs → ∀ ls : Array Slot, lv_has ls 3 [(0, .ref (B + 0)), (1, .ref (B + i)), (2, .int (nI x))] → W pg l e rm_X4_whyBroken s m ([.ref (B + 0), .ref (B + i)] : List Value).toArray below meth cd H locs (0) (0) (MQ below (kl_Qi G B (fun r w1 => mt_why T C nT nS stb sco nL lch lco lpa nC ctb cwd cln r ∧ kl_RU G B w1 nL lf la lch lco lpa lwy nS sf sa stb sco nC cf ca cwa cpa ctb cln cwd ccol ∧ ∀ j, j < 48 → w1 j = w j)) ([.ref (B + 0), .ref (B + i)] : List Value).toArray s 0 0 (kl_fr B)) (F0 m 68 ls []) := by
                intro n68
                induction n68 with
                | zero => intro x hm; exact absurd hm (Nat.not_lt_zero _)
                | succ n68 ih68 =>
                  intro x hm hx9 hnc w1 H locs k0 k2 k3 k4 h0 h1 h2 hru frm hP ls hl
                  refine lv_iload_n hx hb dX4_whyBroken_68 rfl (lv_at hl 2 rfl) ?_
                  refine lv_aload_n hx hb dX4_whyBroken_69 rfl (lv_at hl 0 rfl) ?_
                  refine kl_get (C := RX4) (T := TX4) (N := 16) (ci := 4) hx hb hts hinX4 hown hK hP k0 rfl 3 (by decide) (hts (.fieldLink RX4 23 "KinLedger" "linkCount" "I") (by decide +kernel)) (fun _ h9 => h9) rfl dX4_whyBroken_70 ?_
                  refine kl_ge (tgt := 101) hx hb (by omega) (by omega) dX4_whyBroken_73 (by decide) (fun c73 => ?_) (fun c73 => ?_)
                  · refine lv_iconst (v := nI 0) hx hb dX4_whyBroken_101 (by decide) ?_
                    refine lv_istore_n (lv' := [(2, .int (nI 0)), (0, .ref (B + 0)), (1, .ref (B + i))]) hx hb dX4_whyBroken_102 rfl hl (by decide) rfl (fun ls hl => ?_)
                    have lp103 : ∀ (n103 : Nat) (x : Nat), nC - x < n103 → (x ≤ nC) → (∀ j, j < x → ¬ mt_cbrk T C (ctb j) (cwd j) (cln j)) → ∀ (w1 : kl_M) (H : Heap) (locs : List Loc), w1 0 = some (.inr (4, [.ref (B + 1), .int (nI nT), .ref (B + 2), .int (nI nL), .ref (B + 3), .int (nI nS), .ref (B + 4), .int (nI nC), .ref (B + 5), .int (nI nW), .ref (B + 6), .ref (B + 9), .ref (B + 12), .int (nI nM), .ref (B + 13), .int rs])) → w1 2 = some (kl_aR G 3 6 lf) → w1 3 = some (kl_aR G 4 4 sf) → w1 4 = some (kl_aR G 5 4 cf) → w1 i = some (.inr (2, [.ref (B + a), .ref (B + b)])) → w1 a = some (kl_aI G 24 T) → w1 b = some (kl_aI G 96 C) → (kl_RU G B w1 nL lf la lch lco lpa lwy nS sf sa stb sco nC cf ca cwa cpa ctb cln cwd ccol) → (∀ j : Nat, j < 48 → w1 j = w j) → kl_S G B w1 s.heap H locs → ∀ ls : Array Slot, lv_has ls 3 [(0, .ref (B + 0)), (1, .ref (B + i)), (2, .int (nI x))] → W pg l e rm_X4_whyBroken s m ([.ref (B + 0), .ref (B + i)] : List Value).toArray below meth cd H locs (0) (0) (MQ below (kl_Qi G B (fun r w1 => mt_why T C nT nS stb sco nL lch lco lpa nC ctb cwd cln r ∧ kl_RU G B w1 nL lf la lch lco lpa lwy nS sf sa stb sco nC cf ca cwa cpa ctb cln cwd ccol ∧ ∀ j, j < 48 → w1 j = w j)) ([.ref (B + 0), .ref (B + i)] : List Value).toArray s 0 0 (kl_fr B)) (F0 m 103 ls []) := by
                      intro n103
                      induction n103 with
                      | zero => intro x hm; exact absurd hm (Nat.not_lt_zero _)
                      | succ n103 ih103 =>
                        intro x hm hx9 hnd w1 H locs k0 k2 k3 k4 h0 h1 h2 hru frm hP ls hl
                        refine lv_iload_n hx hb dX4_whyBroken_103 rfl (lv_at hl 2 rfl) ?_
                        refine lv_aload_n hx hb dX4_whyBroken_104 rfl (lv_at hl 0 rfl) ?_
                        refine kl_get (C := RX4) (T := TX4) (N := 16) (ci := 4) hx hb hts hinX4 hown hK hP k0 rfl 7 (by decide) (hts (.fieldLink RX4 41 "KinLedger" "checkCount" "I") (by decide +kernel)) (fun _ h9 => h9) rfl dX4_whyBroken_105 ?_
                        refine kl_ge (tgt := 136) hx hb (by omega) (by omega) dX4_whyBroken_108 (by decide) (fun c108 => ?_) (fun c108 => ?_)
                        · refine lv_iconst (v := nI 0) hx hb dX4_whyBroken_136 (by decide) ?_
                          exact kl_iret hx hb hr hlocks hP ⟨Or.inr ⟨fun j hj => hna j (by omega), Or.inr ⟨fun j hj => hnb j (by omega), Or.inr ⟨fun j hj => hnc j (by omega), Or.inr ⟨fun j hj => hnd j (by omega), rfl⟩⟩⟩⟩, hru, frm⟩ dX4_whyBroken_137
                        · refine lv_aload_n hx hb dX4_whyBroken_111 rfl (lv_at hl 0 rfl) ?_
                          refine kl_get (C := RX4) (T := TX4) (N := 16) (ci := 4) hx hb hts hinX4 hown hK hP k0 rfl 6 (by decide) (hts (.fieldLink RX4 37 "KinLedger" "checks" "[LKinLedger$Check;") (by decide +kernel)) (fun _ h9 => h9) rfl dX4_whyBroken_112 ?_
                          refine lv_iload_n hx hb dX4_whyBroken_115 rfl (lv_at hl 2 rfl) ?_
                          obtain ⟨ec1a, ⟨ec1b, ec1c, ec1d⟩, ⟨ec1h, ec1i, ec1j, ec1k⟩, ec1l, ec1e, ec1f, ec1p, ec1g⟩ := hru.2.2 x (by omega)
                          have ec1m : cpa x ≠ cwa x := ec1l x (by omega)
                          have ec1n : cpa x ≠ ca x := fun z => by rw [z, ec1e] at ec1g; cases ec1g
                          refine kl_aald hx hb hK hP 5 (k0 := 5) k4 rfl (by omega) (by omega) ec1a dX4_whyBroken_116 ?_
                          refine lv_aload_n hx hb dX4_whyBroken_117 rfl (lv_at hl 1 rfl) ?_
                          refine kl_cVi (C := RX0) (i := (ca x)) (As := [.ref (B + i)]) (rest := []) ⟨hx, hb, hml, hown, hts⟩ (c_X0_isBroken l G B _ i a b (ca x) (cwa x) (cpa x) (cln x) ((ccol x)) ec1e ec1f ec1g h0 h1 h2 ec1h ec1i ec1j  (by omega) (by omega)) (cwV 1 hts gX4_whyBroken_X0_isBroken rfl rfl rfl (by decide +kernel) ⟨Nat.le_of_ble_eq_true rfl, Nat.le_of_ble_eq_true rfl⟩) hK hP ec1e rfl rfl hl.1 rfl (Nat.le_of_ble_eq_true rfl) dX4_whyBroken_118 ⟨Nat.le_of_ble_eq_true rfl, Nat.le_of_ble_eq_true rfl⟩ (fun r4 w2 H locs q3 hP => ?_)
                          obtain ⟨hv8, ⟨g5, f6⟩, fr7⟩ := q3
                          have hru := kl_RU.pile hru (j := x) (by omega) f6 fr7
                          have k0 : w2 0 = some (.inr (4, [.ref (B + 1), .int (nI nT), .ref (B + 2), .int (nI nL), .ref (B + 3), .int (nI nS), .ref (B + 4), .int (nI nC), .ref (B + 5), .int (nI nW), .ref (B + 6), .ref (B + 9), .ref (B + 12), .int (nI nM), .ref (B + 13), .int rs])) := (fr7 _ (by omega)).trans k0
                          have k2 : w2 2 = some (kl_aR G 3 6 lf) := (fr7 _ (by omega)).trans k2
                          have k3 : w2 3 = some (kl_aR G 4 4 sf) := (fr7 _ (by omega)).trans k3
                          have k4 : w2 4 = some (kl_aR G 5 4 cf) := (fr7 _ (by omega)).trans k4
                          have h0 : w2 i = some (.inr (2, [.ref (B + a), .ref (B + b)])) := (fr7 _ (by omega)).trans h0
                          have h1 : w2 a = some (kl_aI G 24 T) := (fr7 _ (by omega)).trans h1
                          have h2 : w2 b = some (kl_aI G 96 C) := (fr7 _ (by omega)).trans h2
                          have ec1f : w2 (cwa x) = some (kl_aI G (cln x) ((fun i => nI (cwd x i)))) := (fr7 _ (by omega)).trans ec1f
                          have ec1e : w2 (ca x) = some (.inr (0, [.int (ctb x), .ref (B + (cwa x)), .ref (B + (cpa x))])) := (fr7 _ (by omega)).trans ec1e
                          have frm : ∀ j : Nat, j < 48 → w2 j = w j := fun j hj  => (fr7 j (by omega)).trans (frm j hj )
                          refine kl_ifeq (tgt := 130) hx hb hv8 dX4_whyBroken_121 (by decide) (fun c121 => ?_) (fun c121 => ?_)
                          · refine lv_iinc (v := nI (x + 1)) (lv' := [(2, .int (nI (x + 1))), (0, .ref (B + 0)), (1, .ref (B + i))]) hx hb dX4_whyBroken_130 hl (k := 2) rfl (nI_1 _) (by decide) rfl (fun ls hl => ?_)
                            refine lv_goto (tgt := 103) hx hb dX4_whyBroken_133 (by decide) ?_
                            exact ih103 (x + 1) (by omega) (by first | omega | grind) (lt_s hnd c121) _ _ _ k0 k2 k3 k4 h0 h1 h2 hru frm hP ls (lv_sub hl [1, 2, 0] rfl)
                          · refine lv_sipush (v := nI 500) hx hb dX4_whyBroken_124 (by decide) ?_
                            refine lv_iload_n hx hb dX4_whyBroken_127 rfl (lv_at hl 2 rfl) ?_
                            refine lv_iadd hx hb dX4_whyBroken_128 ?_
                            refine kl_top (z := nI (500 + x)) (by first | exact nI_add _ _ | (rw [nI_add]; first | rfl | (congr 1; omega))) ?_
                            exact kl_iret hx hb hr hlocks hP ⟨Or.inr ⟨fun j hj => hna j (by omega), Or.inr ⟨fun j hj => hnb j (by omega), Or.inr ⟨fun j hj => hnc j (by omega), Or.inl ⟨x, c108, rfl, c121, hnd⟩⟩⟩⟩, hru, frm⟩ dX4_whyBroken_129
                    exact lp103 (nC + 1) 0 (Nat.lt_succ_of_le (by omega)) (by first | omega | grind) lt_0 _ _ _ k0 k2 k3 k4 h0 h1 h2 hru frm hP ls (lv_sub hl [1, 2, 0] rfl)
                  · refine lv_aload_n hx hb dX4_whyBroken_76 rfl (lv_at hl 0 rfl) ?_
                    refine kl_get (C := RX4) (T := TX4) (N := 16) (ci := 4) hx hb hts hinX4 hown hK hP k0 rfl 2 (by decide) (hts (.fieldLink RX4 19 "KinLedger" "links" "[LKinLedger$Link;") (by decide +kernel)) (fun _ h9 => h9) rfl dX4_whyBroken_77 ?_
                    refine lv_iload_n hx hb dX4_whyBroken_80 rfl (lv_at hl 2 rfl) ?_
                    obtain ⟨el9a, el9b, ⟨el9c, el9d⟩, el9e⟩ := hru.1 x (by omega)
                    refine kl_aald hx hb hK hP 3 (k0 := 3) k2 rfl (by omega) (by omega) el9a dX4_whyBroken_81 ?_
                    refine lv_aload_n hx hb dX4_whyBroken_82 rfl (lv_at hl 1 rfl) ?_
                    refine kl_cVi (C := RX1) (i := (la x)) (As := [.ref (B + i)]) (rest := []) ⟨hx, hb, hml, hown, hts⟩ (c_X1_isBroken l G B _ i a b (la x)  el9e h0 h1 h2 (by omega)) (cwV 1 hts gX4_whyBroken_X1_isBroken rfl rfl rfl (by decide +kernel) ⟨Nat.le_of_ble_eq_true rfl, Nat.le_of_ble_eq_true rfl⟩) hK hP el9e rfl rfl hl.1 rfl (Nat.le_of_ble_eq_true rfl) dX4_whyBroken_83 ⟨Nat.le_of_ble_eq_true rfl, Nat.le_of_ble_eq_true rfl⟩ (fun r12 w10 H locs q11 hP => ?_)
                    obtain ⟨rfl, hv13⟩ := q11
                    refine kl_ifeq (tgt := 95) hx hb hv13 dX4_whyBroken_86 (by decide) (fun c86 => ?_) (fun c86 => ?_)
                    · refine lv_iinc (v := nI (x + 1)) (lv' := [(2, .int (nI (x + 1))), (0, .ref (B + 0)), (1, .ref (B + i))]) hx hb dX4_whyBroken_95 hl (k := 2) rfl (nI_1 _) (by decide) rfl (fun ls hl => ?_)
                      refine lv_goto (tgt := 68) hx hb dX4_whyBroken_98 (by decide) ?_
                      exact ih68 (x + 1) (by omega) (by first | omega | grind) (lt_s hnc c86) _ _ _ k0 k2 k3 k4 h0 h1 h2 hru frm hP ls (lv_sub hl [1, 2, 0] rfl)
                    · refine lv_sipush (v := nI 400) hx hb dX4_whyBroken_89 (by decide) ?_
                      refine lv_iload_n hx hb dX4_whyBroken_92 rfl (lv_at hl 2 rfl) ?_
                      refine lv_iadd hx hb dX4_whyBroken_93 ?_
                      refine kl_top (z := nI (400 + x)) (by first | exact nI_add _ _ | (rw [nI_add]; first | rfl | (congr 1; omega))) ?_
                      exact kl_iret hx hb hr hlocks hP ⟨Or.inr ⟨fun j hj => hna j (by omega), Or.inr ⟨fun j hj => hnb j (by omega), Or.inl ⟨x, c73, rfl, c86, hnc⟩⟩⟩, hru, frm⟩ dX4_whyBroken_94
              exact lp68 (nL + 1) 0 (Nat.lt_succ_of_le (by omega)) (by first | omega | grind) lt_0 _ _ _ k0 k2 k3 k4 h0 h1 h2 hru frm hP ls (lv_sub hl [1, 2, 0] rfl)
            · refine lv_aload_n hx hb dX4_whyBroken_41 rfl (lv_at hl 0 rfl) ?_
              refine kl_get (C := RX4) (T := TX4) (N := 16) (ci := 4) hx hb hts hinX4 hown hK hP k0 rfl 4 (by decide) (hts (.fieldLink RX4 28 "KinLedger" "singles" "[LKinLedger$Single;") (by decide +kernel)) (fun _ h9 => h9) rfl dX4_whyBroken_42 ?_
              refine lv_iload_n hx hb dX4_whyBroken_45 rfl (lv_at hl 2 rfl) ?_
              obtain ⟨es14a, es14b, ⟨es14c, es14d⟩, es14e⟩ := hru.2.1 x (by omega)
              refine kl_aald hx hb hK hP 4 (k0 := 4) k3 rfl (by omega) (by omega) es14a dX4_whyBroken_46 ?_
              refine lv_aload_n hx hb dX4_whyBroken_47 rfl (lv_at hl 1 rfl) ?_
              refine kl_cVi (C := RX3) (i := (sa x)) (As := [.ref (B + i)]) (rest := []) ⟨hx, hb, hml, hown, hts⟩ (c_X3_isBroken l G B _ i a b (sa x)  es14e h0 h1 h2 (by omega)) (cwV 1 hts gX4_whyBroken_X3_isBroken rfl rfl rfl (by decide +kernel) ⟨Nat.le_of_ble_eq_true rfl, Nat.le_of_ble_eq_true rfl⟩) hK hP es14e rfl rfl hl.1 rfl (Nat.le_of_ble_eq_true rfl) dX4_whyBroken_48 ⟨Nat.le_of_ble_eq_true rfl, Nat.le_of_ble_eq_true rfl⟩ (fun r17 w15 H locs q16 hP => ?_)
              obtain ⟨rfl, hv18⟩ := q16
              refine kl_ifeq (tgt := 60) hx hb hv18 dX4_whyBroken_51 (by decide) (fun c51 => ?_) (fun c51 => ?_)
              · refine lv_iinc (v := nI (x + 1)) (lv' := [(2, .int (nI (x + 1))), (0, .ref (B + 0)), (1, .ref (B + i))]) hx hb dX4_whyBroken_60 hl (k := 2) rfl (nI_1 _) (by decide) rfl (fun ls hl => ?_)
                refine lv_goto (tgt := 33) hx hb dX4_whyBroken_63 (by decide) ?_
                exact ih33 (x + 1) (by omega) (by first | omega | grind) (lt_s hnb c51) _ _ _ k0 k2 k3 k4 h0 h1 h2 hru frm hP ls (lv_sub hl [1, 2, 0] rfl)
              · refine lv_sipush (v := nI 300) hx hb dX4_whyBroken_54 (by decide) ?_
                refine lv_iload_n hx hb dX4_whyBroken_57 rfl (lv_at hl 2 rfl) ?_
                refine lv_iadd hx hb dX4_whyBroken_58 ?_
                refine kl_top (z := nI (300 + x)) (by first | exact nI_add _ _ | (rw [nI_add]; first | rfl | (congr 1; omega))) ?_
                exact kl_iret hx hb hr hlocks hP ⟨Or.inr ⟨fun j hj => hna j (by omega), Or.inl ⟨x, c38, rfl, c51, hnb⟩⟩, hru, frm⟩ dX4_whyBroken_59
        exact lp33 (nS + 1) 0 (Nat.lt_succ_of_le (by omega)) (by first | omega | grind) lt_0 _ _ _ k0 k2 k3 k4 h0 h1 h2 hru frm hP ls (lv_sub hl [1, 2, 0] rfl)
      · refine lv_aload_n hx hb dX4_whyBroken_10 rfl (lv_at hl 1 rfl) ?_
        refine lv_iload_n hx hb dX4_whyBroken_11 rfl (lv_at hl 2 rfl) ?_
        refine lv_iconst (v := nI 0) hx hb dX4_whyBroken_12 (by decide) ?_
        refine kl_cVi (C := RX2) (i := i) (As := [.int (nI x), .int (nI 0)]) (rest := []) ⟨hx, hb, hml, hown, hts⟩ (c_X2_hasTwins l G B _ i a b (nI x) 0 h0 h1 h2 (by omega)) (cwV 2 hts gX4_whyBroken_X2_hasTwins rfl rfl rfl (by decide +kernel) ⟨Nat.le_of_ble_eq_true rfl, Nat.le_of_ble_eq_true rfl⟩) hK hP h0 rfl rfl hl.1 rfl (Nat.le_of_ble_eq_true rfl) dX4_whyBroken_13 ⟨Nat.le_of_ble_eq_true rfl, Nat.le_of_ble_eq_true rfl⟩ (fun r21 w19 H locs q20 hP => ?_)
        obtain ⟨rfl, hv22⟩ := q20
        refine kl_ifeq (tgt := 25) hx hb hv22 dX4_whyBroken_16 (by decide) (fun c16 => ?_) (fun c16 => ?_)
        · refine lv_iinc (v := nI (x + 1)) (lv' := [(2, .int (nI (x + 1))), (0, .ref (B + 0)), (1, .ref (B + i))]) hx hb dX4_whyBroken_25 hl (k := 2) rfl (nI_1 _) (by decide) rfl (fun ls hl => ?_)
          refine lv_goto (tgt := 2) hx hb dX4_whyBroken_28 (by decide) ?_
          exact ih2 (x + 1) (by omega) (by first | omega | grind) (lt_s hna c16) _ _ _ k0 k2 k3 k4 h0 h1 h2 hru frm hP ls (lv_sub hl [1, 2, 0] rfl)
        · refine lv_sipush (v := nI 200) hx hb dX4_whyBroken_19 (by decide) ?_
          refine lv_iload_n hx hb dX4_whyBroken_22 rfl (lv_at hl 2 rfl) ?_
          refine lv_iadd hx hb dX4_whyBroken_23 ?_
          refine kl_top (z := nI (200 + x)) (by first | exact nI_add _ _ | (rw [nI_add]; first | rfl | (congr 1; omega))) ?_
          exact kl_iret hx hb hr hlocks hP ⟨Or.inl ⟨x, c7, rfl, c16, hna⟩, hru, frm⟩ dX4_whyBroken_24
  exact lp2 (nT + 1) 0 (Nat.lt_succ_of_le (by omega)) (by first | omega | grind) lt_0 _ _ _ k0 k2 k3 k4 h0 h1 h2 hru frm hP ls (lv_sub hl [1, 2, 0] rfl)
