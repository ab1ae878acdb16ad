abbrev rm_X5_thrown : Room := { frames := 0, cells := 0, slots := 0, locals := 0 }
set_option maxHeartbeats 4000000 in
set_option maxRecDepth 100000 in
theorem c_X5_thrown (l : Launch) (G : kl_G) (B : Nat) (w : kl_M) {nT nL nS nC nW nM n on : Nat} {ec rs hi : Int32} (q26 : w 26 = some (.inr (5, [.int ec, .int rs, .int (nI nT), .ref (B + 27), .int (nI n), .ref (B + 28), .ref (B + 29), .int (nI on), .ref (B + 30), .ref (B + 31), .ref (B + 32), .int (nI nL), .ref (B + 33), .ref (B + 34), .ref (B + 35), .ref (B + 36), .int (nI nS), .ref (B + 37), .ref (B + 38), .int (nI nC), .ref (B + 39), .ref (B + 40), .ref (B + 41), .int (nI nW), .ref (B + 42), .int hi, .ref (B + 43), .int (nI nM), .ref (B + 44), .ref (B + 45), .ref (B + 46)])))  : Met l yX5_thrown wsX5_thrown rm_X5_thrown (kl_Pc G B w [.ref (B + 26)]) (kl_Qi G B (fun r w1 => w = w1 ∧ r = ec)) 0 0 (kl_fr B) := by
  refine Met.ofW (cc := cX5_thrown) (maxL := 1) (ret := (some .int)) (by decide) rfl ?_
  intro pg e s m args below meth cd s₁ Bd hml hv
  obtain ⟨rfl, hP0, hK⟩ := hv
  have hx := Bd.exec
  have hb := Bd.bytes
  have hr := Bd.returns
  have hts := atoms_spec (ws := wsX5_thrown) Bd.pre
  have hown : s.vm.findClass RX5 = some m.cls := findClass_of_methodNamed Bd.named
  have hlocks := Bd.notSynchronized
  have hinX5 : ∀ w ∈ u_ws RX5 TX5 31, w ∈ wsX5_thrown := by decide +kernel
  have hP := kl_S.rf hP0
  have hl := lv_entry ([.ref (B + 26)]) (n := 1) (Nat.le_of_ble_eq_true rfl)
  rw [lg_entry_eq]
  generalize (lg_sl ([.ref (B + 26)]) ++ List.replicate (1 - (lg_sl ([.ref (B + 26)])).length) Slot.unset).toArray = ls at hl ⊢
  have hl : lv_has ls 1 [(0, .ref (B + 26))] := hl
  refine lv_aload_n hx hb dX5_thrown_0 rfl (lv_at hl 0 rfl) ?_
  refine kl_get (C := RX5) (T := TX5) (N := 31) (ci := 5) hx hb hts hinX5 hown hK hP q26 rfl 0 (by decide) (hts (.fieldLink RX5 71 "KinLedgerModel" "code" "I") (by decide +kernel)) (fun _ h9 => h9) rfl dX5_thrown_1 ?_
  exact kl_iret hx hb hr hlocks hP ⟨rfl, rfl⟩ dX5_thrown_4

abbrev rm_X5_isTable : Room := { frames := 0, cells := 0, slots := 0, locals := 0 }
set_option maxHeartbeats 4000000 in
set_option maxRecDepth 100000 in
theorem c_X5_isTable (l : Launch) (G : kl_G) (B : Nat) (w : kl_M) {nT nL nS nC nW nM n on : Nat} {ec rs hi : Int32} (t : Int32) (q26 : w 26 = some (.inr (5, [.int ec, .int rs, .int (nI nT), .ref (B + 27), .int (nI n), .ref (B + 28), .ref (B + 29), .int (nI on), .ref (B + 30), .ref (B + 31), .ref (B + 32), .int (nI nL), .ref (B + 33), .ref (B + 34), .ref (B + 35), .ref (B + 36), .int (nI nS), .ref (B + 37), .ref (B + 38), .int (nI nC), .ref (B + 39), .ref (B + 40), .ref (B + 41), .int (nI nW), .ref (B + 42), .int hi, .ref (B + 43), .int (nI nM), .ref (B + 44), .ref (B + 45), .ref (B + 46)]))) (hn : nT ≤ 4) : Met l yX5_isTable wsX5_isTable rm_X5_isTable (kl_Pc G B w [.ref (B + 26), .int t]) (kl_Qi G B (fun r w1 => w = w1 ∧ kl_b r (mt_tab t nT))) 0 0 (kl_fr B) := by
  refine Met.ofW (cc := cX5_isTable) (maxL := 2) (ret := (some .boolean)) (by decide) rfl ?_
  intro pg e s m args below meth cd s₁ Bd hml hv
  obtain ⟨rfl, hP0, hK⟩ := hv
  have hx := Bd.exec
  have hb := Bd.bytes
  have hr := Bd.returns
  have hts := atoms_spec (ws := wsX5_isTable) Bd.pre
  have hown : s.vm.findClass RX5 = some m.cls := findClass_of_methodNamed Bd.named
  have hlocks := Bd.notSynchronized
  have hinX5 : ∀ w ∈ u_ws RX5 TX5 31, w ∈ wsX5_isTable := by decide +kernel
  have hP := kl_S.rf hP0
  have hl := lv_entry ([.ref (B + 26), .int t]) (n := 2) (Nat.le_of_ble_eq_true rfl)
  rw [lg_entry_eq]
  generalize (lg_sl ([.ref (B + 26), .int t]) ++ List.replicate (2 - (lg_sl ([.ref (B + 26), .int t])).length) Slot.unset).toArray = ls at hl ⊢
  have hl : lv_has ls 2 [(0, .ref (B + 26)), (1, .int t)] := hl
  refine lv_iload_n hx hb dX5_isTable_0 rfl (lv_at hl 1 rfl) ?_
  refine lv_if_lt (tgt := 16) hx hb dX5_isTable_1 (by decide) (fun c1 => ?_) (fun c1 => ?_)
  · refine lv_iconst (v := nI 0) hx hb dX5_isTable_16 (by decide) ?_
    exact kl_zret hx hb hr hlocks (by decide) hP ⟨rfl, kl_b.f (mt_tab_n0 (by omega) c1)⟩ dX5_isTable_17
  · refine lv_iload_n hx hb dX5_isTable_4 rfl (lv_at hl 1 rfl) ?_
    refine lv_aload_n hx hb dX5_isTable_5 rfl (lv_at hl 0 rfl) ?_
    refine kl_get (C := RX5) (T := TX5) (N := 31) (ci := 5) hx hb hts hinX5 hown hK hP q26 rfl 2 (by decide) (hts (.fieldLink RX5 75 "KinLedgerModel" "tables" "I") (by decide +kernel)) (fun _ h9 => h9) rfl dX5_isTable_6 ?_
    refine lv_icmp_ge (tgt := 16) hx hb dX5_isTable_9 (by decide) (fun c9 => ?_) (fun c9 => ?_)
    · refine lv_iconst (v := nI 0) hx hb dX5_isTable_16 (by decide) ?_
      exact kl_zret hx hb hr hlocks (by decide) hP ⟨rfl, kl_b.f (mt_tab_n1 (by omega) c9)⟩ dX5_isTable_17
    · refine lv_iconst (v := nI 1) hx hb dX5_isTable_12 (by decide) ?_
      refine lv_goto (tgt := 17) hx hb dX5_isTable_13 (by decide) ?_
      exact kl_zret hx hb hr hlocks (by decide) hP ⟨rfl, kl_b.t (mt_tab_y (by omega) c1 c9)⟩ dX5_isTable_17

abbrev rm_X5_isColumn : Room := { frames := 1, cells := 0, slots := 0, locals := 21 }
set_option maxHeartbeats 4000000 in
set_option maxRecDepth 100000 in
theorem c_X5_isColumn (l : Launch) (G : kl_G) (B : Nat) (w : kl_M) {nT nL nS nC nW nM n on : Nat} {ec rs hi : Int32} {cn : Nat → Nat} (t c : Int32) (q26 : w 26 = some (.inr (5, [.int ec, .int rs, .int (nI nT), .ref (B + 27), .int (nI n), .ref (B + 28), .ref (B + 29), .int (nI on), .ref (B + 30), .ref (B + 31), .ref (B + 32), .int (nI nL), .ref (B + 33), .ref (B + 34), .ref (B + 35), .ref (B + 36), .int (nI nS), .ref (B + 37), .ref (B + 38), .int (nI nC), .ref (B + 39), .ref (B + 40), .ref (B + 41), .int (nI nW), .ref (B + 42), .int hi, .ref (B + 43), .int (nI nM), .ref (B + 44), .ref (B + 45), .ref (B + 46)]))) (q27 : w 27 = some (kl_aI G 4 ((fun t => nI (cn t))))) (hn : nT ≤ 4) (hcn : ∀ j, j < nT → cn j ≤ 4) : Met l yX5_isColumn wsX5_isColumn rm_X5_isColumn (kl_Pc G B w [.ref (B + 26), .int t, .int c]) (kl_Qi G B (fun r w1 => w = w1 ∧ kl_b r (mt_col t c nT cn))) 0 0 (kl_fr B) := by
  refine Met.ofW (cc := cX5_isColumn) (maxL := 3) (ret := (some .boolean)) (by decide) rfl ?_
  intro pg e s m args below meth cd s₁ Bd hml hv
  obtain ⟨rfl, hP0, hK⟩ := hv
  have hx := Bd.exec
  have hb := Bd.bytes
  have hr := Bd.returns
  have hts := atoms_spec (ws := wsX5_isColumn) Bd.pre
  have hown : s.vm.findClass RX5 = some m.cls := findClass_of_methodNamed Bd.named
  have hlocks := Bd.notSynchronized
  have hinX5 : ∀ w ∈ u_ws RX5 TX5 31, w ∈ wsX5_isColumn := by decide +kernel
  have hP := kl_S.rf hP0
  have hl := lv_entry ([.ref (B + 26), .int t, .int c]) (n := 3) (Nat.le_of_ble_eq_true rfl)
  rw [lg_entry_eq]
  generalize (lg_sl ([.ref (B + 26), .int t, .int c]) ++ List.replicate (3 - (lg_sl ([.ref (B + 26), .int t, .int c])).length) Slot.unset).toArray = ls at hl ⊢
  have hl : lv_has ls 3 [(0, .ref (B + 26)), (1, .int t), (2, .int c)] := hl
  refine lv_aload_n hx hb dX5_isColumn_0 rfl (lv_at hl 0 rfl) ?_
  refine lv_iload_n hx hb dX5_isColumn_1 rfl (lv_at hl 1 rfl) ?_
  refine kl_cVi (C := RX5) (i := 26) (As := [.int t]) (rest := []) ⟨hx, hb, hml, hown, hts⟩ (c_X5_isTable l G B _ t q26 (by omega)) (cwV 1 hts gX5_isColumn_X5_isTable rfl rfl rfl (by decide +kernel) ⟨Nat.le_of_ble_eq_true rfl, Nat.le_of_ble_eq_true rfl⟩) hK hP q26 rfl rfl hl.1 rfl (Nat.le_of_ble_eq_true rfl) dX5_isColumn_2 ⟨Nat.le_of_ble_eq_true rfl, Nat.le_of_ble_eq_true rfl⟩ (fun r3 w1 H locs q2 hP => ?_)
  obtain ⟨rfl, hv4⟩ := q2
  refine kl_ifeq (tgt := 26) hx hb hv4 dX5_isColumn_5 (by decide) (fun c5 => ?_) (fun c5 => ?_)
  · refine lv_iconst (v := nI 0) hx hb dX5_isColumn_26 (by decide) ?_
    exact kl_zret hx hb hr hlocks (by decide) hP ⟨rfl, kl_b.f (fun z => c5 (mt_col_tab z))⟩ dX5_isColumn_27
  · obtain ⟨j, hj, rfl⟩ := c5
    refine lv_iload_n hx hb dX5_isColumn_8 rfl (lv_at hl 2 rfl) ?_
    refine lv_if_lt (tgt := 26) hx hb dX5_isColumn_9 (by decide) (fun c9 => ?_) (fun c9 => ?_)
    · refine lv_iconst (v := nI 0) hx hb dX5_isColumn_26 (by decide) ?_
      exact kl_zret hx hb hr hlocks (by decide) hP ⟨rfl, kl_b.f (fun ⟨j2, k2, z1, z2, z3, z4⟩ => by have := hcn j2 z1; rw [z4] at c9; exact nI_pos (by omega) c9)⟩ dX5_isColumn_27
    · obtain ⟨k, hk, rfl⟩ := nI_of c9
      have hcj := hcn j (by omega)
      refine lv_iload_n hx hb dX5_isColumn_12 rfl (lv_at hl 2 rfl) ?_
      refine lv_aload_n hx hb dX5_isColumn_13 rfl (lv_at hl 0 rfl) ?_
      refine kl_get (C := RX5) (T := TX5) (N := 31) (ci := 5) hx hb hts hinX5 hown hK hP q26 rfl 3 (by decide) (hts (.fieldLink RX5 7 "KinLedgerModel" "columns" "[I") (by decide +kernel)) (fun _ h9 => h9) rfl dX5_isColumn_14 ?_
      refine lv_iload_n hx hb dX5_isColumn_17 rfl (lv_at hl 1 rfl) ?_
      refine kl_iald hx hb hK hP q27 (by omega) (by omega) dX5_isColumn_18 ?_
      refine kl_top (z := nI (cn j)) rfl ?_
      refine kl_ge (tgt := 26) hx hb (by omega) (by omega) dX5_isColumn_19 (by decide) (fun c19 => ?_) (fun c19 => ?_)
      · refine lv_iconst (v := nI 0) hx hb dX5_isColumn_26 (by decide) ?_
        exact kl_zret hx hb hr hlocks (by decide) hP ⟨rfl, kl_b.f (fun ⟨j2, k2, z1, z2, z3, z4⟩ => by have h9 := hcn j2 z1; have e1 := (nI_eq (by omega) (by omega)).mp z2; have e2 := (nI_eq hk (by omega)).mp z4; subst e1; omega)⟩ dX5_isColumn_27
      · refine lv_iconst (v := nI 1) hx hb dX5_isColumn_22 (by decide) ?_
        refine lv_goto (tgt := 27) hx hb dX5_isColumn_23 (by decide) ?_
        exact kl_zret hx hb hr hlocks (by decide) hP ⟨rfl, kl_b.t ⟨j, k, hj, rfl, c19, rfl⟩⟩ dX5_isColumn_27

abbrev rm_X5_find : Room := { frames := 0, cells := 0, slots := 0, locals := 0 }
set_option maxHeartbeats 4000000 in
set_option maxRecDepth 100000 in
theorem c_X5_find (l : Launch) (G : kl_G) (B : Nat) (w : kl_M) {nT nL nS nC nW nM n on : Nat} {ec rs hi : Int32} {O D : Nat → Int32} (t k : Int32) (q26 : w 26 = some (.inr (5, [.int ec, .int rs, .int (nI nT), .ref (B + 27), .int (nI n), .ref (B + 28), .ref (B + 29), .int (nI on), .ref (B + 30), .ref (B + 31), .ref (B + 32), .int (nI nL), .ref (B + 33), .ref (B + 34), .ref (B + 35), .ref (B + 36), .int (nI nS), .ref (B + 37), .ref (B + 38), .int (nI nC), .ref (B + 39), .ref (B + 40), .ref (B + 41), .int (nI nW), .ref (B + 42), .int hi, .ref (B + 43), .int (nI nM), .ref (B + 44), .ref (B + 45), .ref (B + 46)]))) (q28 : w 28 = some (kl_aI G 24 O)) (q29 : w 29 = some (kl_aI G 96 D)) (hn : n ≤ 24) (ht : t ≠ -1) : Met l yX5_find wsX5_find rm_X5_find (kl_Pc G B w [.ref (B + 26), .int t, .int k]) (kl_Qi G B (fun r w1 => w = w1 ∧ mt_find (md_T n O) D t k r)) 0 0 (kl_fr B) := by
  refine Met.ofW (cc := cX5_find) (maxL := 5) (ret := (some .int)) (by decide) rfl ?_
  intro pg e s m args below meth cd s₁ Bd hml hv
  obtain ⟨rfl, hP0, hK⟩ := hv
  have hx := Bd.exec
  have hb := Bd.bytes
  have hr := Bd.returns
  have hts := atoms_spec (ws := wsX5_find) Bd.pre
  have hown : s.vm.findClass RX5 = some m.cls := findClass_of_methodNamed Bd.named
  have hlocks := Bd.notSynchronized
  have hinX5 : ∀ w ∈ u_ws RX5 TX5 31, w ∈ wsX5_find := by decide +kernel
  have hP := kl_S.rf hP0
  have hl := lv_entry ([.ref (B + 26), .int t, .int k]) (n := 5) (Nat.le_of_ble_eq_true rfl)
  rw [lg_entry_eq]
  generalize (lg_sl ([.ref (B + 26), .int t, .int k]) ++ List.replicate (5 - (lg_sl ([.ref (B + 26), .int t, .int k])).length) Slot.unset).toArray = ls at hl ⊢
  have hl : lv_has ls 5 [(0, .ref (B + 26)), (1, .int t), (2, .int k)] := hl
  refine lv_iconst (v := (-1)) hx hb dX5_find_0 (by decide) ?_
  refine lv_istore_n (lv' := [(3, .int ((-1))), (0, .ref (B + 26)), (1, .int t), (2, .int k)]) hx hb dX5_find_1 rfl hl (by decide) rfl (fun ls hl => ?_)
  refine lv_iconst (v := nI 0) hx hb dX5_find_2 (by decide) ?_
  refine lv_istore (lv' := [(4, .int (nI 0)), (3, .int ((-1))), (0, .ref (B + 26)), (1, .int t), (2, .int k)]) hx hb dX5_find_3 hl (by decide) rfl (fun ls hl => ?_)
  have lp5 : ∀ (n5 : Nat) (p : Nat) (a9 : Int32), n - p < n5 → (p ≤ n) → ((a9 = -1 ∧ ∀ q, q < p → ¬ (O q = t ∧ D (4 * q) = k)) ∨ ∃ q, q < p ∧ a9 = nI q ∧ O q = t ∧ D (4 * q) = k) → ∀ (H : Heap) (locs : List Loc), kl_S G B w s.heap H locs → ∀ ls : Array Slot, lv_has ls 5 [(0, .ref (B + 26)), (1, .int t), (2, .int k), (3, .int a9), (4, .int (nI p))] → W pg l e rm_X5_find s m ([.ref (B + 26), .int t, .int k] : List Value).toArray below meth cd H locs (0) (0) (MQ below (kl_Qi G B (fun r w1 => w = w1 ∧ mt_find (md_T n O) D t k r)) ([.ref (B + 26), .int t, .int k] : List Value).toArray s 0 0 (kl_fr B)) (F0 m 5 ls []) := by
    intro n5
    induction n5 with
    | zero => intro p a9 hm; exact absurd hm (Nat.not_lt_zero _)
    | succ n5 ih5 =>
      intro p a9 hm hp hat H locs  hP ls hl
      refine lv_iload hx hb dX5_find_5 (lv_at hl 4 rfl) ?_
      refine lv_aload_n hx hb dX5_find_7 rfl (lv_at hl 0 rfl) ?_
      refine kl_get (C := RX5) (T := TX5) (N := 31) (ci := 5) hx hb hts hinX5 hown hK hP q26 rfl 4 (by decide) (hts (.fieldLink RX5 82 "KinLedgerModel" "rows" "I") (by decide +kernel)) (fun _ h9 => h9) rfl dX5_find_8 ?_
      refine kl_ge (tgt := 51) hx hb (by omega) (by omega) dX5_find_11 (by decide) (fun c11 => ?_) (fun c11 => ?_)
      · refine lv_iload_n hx hb dX5_find_51 rfl (lv_at hl 3 rfl) ?_
        exact kl_iret hx hb hr hlocks hP ⟨rfl, md_find hn ht (by rw [show n = p by omega]; exact hat)⟩ dX5_find_52
      · refine lv_aload_n hx hb dX5_find_14 rfl (lv_at hl 0 rfl) ?_
        refine kl_get (C := RX5) (T := TX5) (N := 31) (ci := 5) hx hb hts hinX5 hown hK hP q26 rfl 5 (by decide) (hts (.fieldLink RX5 13 "KinLedgerModel" "of" "[I") (by decide +kernel)) (fun _ h9 => h9) rfl dX5_find_15 ?_
        refine lv_iload hx hb dX5_find_18 (lv_at hl 4 rfl) ?_
        refine kl_iald hx hb hK hP q28 (by omega) (by omega) dX5_find_20 ?_
        refine lv_iload_n hx hb dX5_find_21 rfl (lv_at hl 1 rfl) ?_
        refine lv_icmp_ne (tgt := 43) hx hb dX5_find_22 (by decide) (fun c22 => ?_) (fun c22 => ?_)
        · refine lv_iload_n hx hb dX5_find_43 rfl (lv_at hl 3 rfl) ?_
          refine lv_istore_n (lv' := [(3, .int a9), (0, .ref (B + 26)), (1, .int t), (2, .int k), (4, .int (nI p))]) hx hb dX5_find_44 rfl hl (by decide) rfl (fun ls hl => ?_)
          refine lv_iinc (v := nI (p + 1)) (lv' := [(4, .int (nI (p + 1))), (3, .int a9), (0, .ref (B + 26)), (1, .int t), (2, .int k)]) hx hb dX5_find_45 hl (k := 4) rfl (nI_1 _) (by decide) rfl (fun ls hl => ?_)
          refine lv_goto (tgt := 5) hx hb dX5_find_48 (by decide) ?_
          exact ih5 (p + 1) a9 (by omega) (by first | omega | grind) (hat.elim (fun z => Or.inl ⟨z.1, fun q hq y => (by rcases Nat.lt_or_ge q p with h | h; exact z.2 q h y; obtain rfl : q = p := (by omega); exact c22 y.1)⟩) (fun ⟨q, z1, z2⟩ => Or.inr ⟨q, by omega, z2⟩)) _ _ hP ls (lv_sub hl [2, 3, 4, 1, 0] rfl)
        · refine lv_aload_n hx hb dX5_find_25 rfl (lv_at hl 0 rfl) ?_
          refine kl_get (C := RX5) (T := TX5) (N := 31) (ci := 5) hx hb hts hinX5 hown hK hP q26 rfl 6 (by decide) (hts (.fieldLink RX5 16 "KinLedgerModel" "cells" "[I") (by decide +kernel)) (fun _ h9 => h9) rfl dX5_find_26 ?_
          refine lv_iconst (v := nI 4) hx hb dX5_find_29 (by decide) ?_
          refine lv_iload hx hb dX5_find_30 (lv_at hl 4 rfl) ?_
          refine lv_imul hx hb dX5_find_32 ?_
          refine kl_top (z := nI (4 * p)) (pk_mul _ _) ?_
          refine kl_iald hx hb hK hP q29 (by omega) (by omega) dX5_find_33 ?_
          refine lv_iload_n hx hb dX5_find_34 rfl (lv_at hl 2 rfl) ?_
          refine lv_icmp_ne (tgt := 43) hx hb dX5_find_35 (by decide) (fun c35 => ?_) (fun c35 => ?_)
          · refine lv_iload_n hx hb dX5_find_43 rfl (lv_at hl 3 rfl) ?_
            refine lv_istore_n (lv' := [(3, .int a9), (0, .ref (B + 26)), (1, .int t), (2, .int k), (4, .int (nI p))]) hx hb dX5_find_44 rfl hl (by decide) rfl (fun ls hl => ?_)
            refine lv_iinc (v := nI (p + 1)) (lv' := [(4, .int (nI (p + 1))), (3, .int a9), (0, .ref (B + 26)), (1, .int t), (2, .int k)]) hx hb dX5_find_45 hl (k := 4) rfl (nI_1 _) (by decide) rfl (fun ls hl => ?_)
            refine lv_goto (tgt := 5) hx hb dX5_find_48 (by decide) ?_
            exact ih5 (p + 1) a9 (by omega) (by first | omega | grind) (hat.elim (fun z => Or.inl ⟨z.1, fun q hq y => (by rcases Nat.lt_or_ge q p with h | h; exact z.2 q h y; obtain rfl : q = p := (by omega); exact c35 y.2)⟩) (fun ⟨q, z1, z2⟩ => Or.inr ⟨q, by omega, z2⟩)) _ _ hP ls (lv_sub hl [2, 3, 4, 1, 0] rfl)
          · refine lv_iload hx hb dX5_find_38 (lv_at hl 4 rfl) ?_
            refine lv_goto (tgt := 44) hx hb dX5_find_40 (by decide) ?_
            refine lv_istore_n (lv' := [(3, .int (nI p)), (0, .ref (B + 26)), (1, .int t), (2, .int k), (4, .int (nI p))]) hx hb dX5_find_44 rfl hl (by decide) rfl (fun ls hl => ?_)
            refine lv_iinc (v := nI (p + 1)) (lv' := [(4, .int (nI (p + 1))), (3, .int (nI p)), (0, .ref (B + 26)), (1, .int t), (2, .int k)]) hx hb dX5_find_45 hl (k := 4) rfl (nI_1 _) (by decide) rfl (fun ls hl => ?_)
            refine lv_goto (tgt := 5) hx hb dX5_find_48 (by decide) ?_
            exact ih5 (p + 1) (nI p) (by omega) (by first | omega | grind) (Or.inr ⟨p, Nat.lt_succ_self _, rfl, c22, c35⟩) _ _ hP ls (lv_sub hl [2, 3, 4, 1, 0] rfl)
  exact lp5 (n + 1) 0 ((-1)) (Nat.lt_succ_of_le (by omega)) (by first | omega | grind) (Or.inl ⟨rfl, fun q hq => absurd hq (Nat.not_lt_zero q)⟩) _ _ hP ls (lv_sub hl [2, 3, 4, 1, 0] rfl)

abbrev rm_X5_breaksLink : Room := { frames := 1, cells := 0, slots := 0, locals := 24 }
set_option maxHeartbeats 4000000 in
set_option maxRecDepth 100000 in
theorem c_X5_breaksLink (l : Launch) (G : kl_G) (B : Nat) (w : kl_M) {nT nL nS nC nW nM n on : Nat} {ec rs hi : Int32} {O D lch : Nat → Int32} {lco : Nat → Nat} {lpa : Nat → Int32} (k : Nat) (q26 : w 26 = some (.inr (5, [.int ec, .int rs, .int (nI nT), .ref (B + 27), .int (nI n), .ref (B + 28), .ref (B + 29), .int (nI on), .ref (B + 30), .ref (B + 31), .ref (B + 32), .int (nI nL), .ref (B + 33), .ref (B + 34), .ref (B + 35), .ref (B + 36), .int (nI nS), .ref (B + 37), .ref (B + 38), .int (nI nC), .ref (B + 39), .ref (B + 40), .ref (B + 41), .int (nI nW), .ref (B + 42), .int hi, .ref (B + 43), .int (nI nM), .ref (B + 44), .ref (B + 45), .ref (B + 46)]))) (q28 : w 28 = some (kl_aI G 24 O)) (q29 : w 29 = some (kl_aI G 96 D)) (q33 : w 33 = some (kl_aI G 7 lch)) (q34 : w 34 = some (kl_aI G 7 ((fun t => nI (lco t))))) (q35 : w 35 = some (kl_aI G 7 lpa)) (hn : n ≤ 24) (hk : k < 7) (hco : lco k < 4) (hch : lch k ≠ -1) (hpa : lpa k ≠ -1) : Met l yX5_breaksLink wsX5_breaksLink rm_X5_breaksLink (kl_Pc G B w [.ref (B + 26), .int (nI k)]) (kl_Qi G B (fun r w1 => w = w1 ∧ kl_b r (mt_lbrk (md_T n O) D (lch k) (lco k) (lpa k)))) 0 0 (kl_fr B) := by
  refine Met.ofW (cc := cX5_breaksLink) (maxL := 4) (ret := (some .boolean)) (by decide) rfl ?_
  intro pg e s m args below meth cd s₁ Bd hml hv
  obtain ⟨rfl, hP0, hK⟩ := hv
  have hx := Bd.exec
  have hb := Bd.bytes
  have hr := Bd.returns
  have hts := atoms_spec (ws := wsX5_breaksLink) Bd.pre
  have hown : s.vm.findClass RX5 = some m.cls := findClass_of_methodNamed Bd.named
  have hlocks := Bd.notSynchronized
  have hinX5 : ∀ w ∈ u_ws RX5 TX5 31, w ∈ wsX5_breaksLink := by decide +kernel
  have hP := kl_S.rf hP0
  have hl := lv_entry ([.ref (B + 26), .int (nI k)]) (n := 4) (Nat.le_of_ble_eq_true rfl)
  rw [lg_entry_eq]
  generalize (lg_sl ([.ref (B + 26), .int (nI k)]) ++ List.replicate (4 - (lg_sl ([.ref (B + 26), .int (nI k)])).length) Slot.unset).toArray = ls at hl ⊢
  have hl : lv_has ls 4 [(0, .ref (B + 26)), (1, .int (nI k))] := hl
  refine lv_iconst (v := nI 0) hx hb dX5_breaksLink_0 (by decide) ?_
  refine lv_istore_n (lv' := [(2, .int (nI 0)), (0, .ref (B + 26)), (1, .int (nI k))]) hx hb dX5_breaksLink_1 rfl hl (by decide) rfl (fun ls hl => ?_)
  have lp2 : ∀ (n2 : Nat) (p : Nat), n - p < n2 → (p ≤ n) → (∀ q, q < p → ¬ (((md_T n O) q = lch k ∧ D (4 * q + lco k) ≠ 0) ∧ ∀ j, j < 24 → ¬ mt_ref (md_T n O) D (lch k) (lco k) (lpa k) q j)) → ∀ (H : Heap) (locs : List Loc), kl_S G B w s.heap H locs → ∀ ls : Array Slot, lv_has ls 4 [(0, .ref (B + 26)), (1, .int (nI k)), (2, .int (nI p))] → W pg l e rm_X5_breaksLink s m ([.ref (B + 26), .int (nI k)] : List Value).toArray below meth cd H locs (0) (0) (MQ below (kl_Qi G B (fun r w1 => w = w1 ∧ kl_b r (mt_lbrk (md_T n O) D (lch k) (lco k) (lpa k)))) ([.ref (B + 26), .int (nI k)] : List Value).toArray s 0 0 (kl_fr B)) (F0 m 2 ls []) := by
    intro n2
    induction n2 with
    | zero => intro p hm; exact absurd hm (Nat.not_lt_zero _)
    | succ n2 ih2 =>
      intro p hm hp hno H locs  hP ls hl
      refine lv_iload_n hx hb dX5_breaksLink_2 rfl (lv_at hl 2 rfl) ?_
      refine lv_aload_n hx hb dX5_breaksLink_3 rfl (lv_at hl 0 rfl) ?_
      refine kl_get (C := RX5) (T := TX5) (N := 31) (ci := 5) hx hb hts hinX5 hown hK hP q26 rfl 4 (by decide) (hts (.fieldLink RX5 82 "KinLedgerModel" "rows" "I") (by decide +kernel)) (fun _ h9 => h9) rfl dX5_breaksLink_4 ?_
      refine kl_ge (tgt := 67) hx hb (by omega) (by omega) dX5_breaksLink_7 (by decide) (fun c7 => ?_) (fun c7 => ?_)
      · refine lv_iconst (v := nI 0) hx hb dX5_breaksLink_67 (by decide) ?_
        exact kl_zret hx hb hr hlocks (by decide) hP ⟨rfl, kl_b.f (fun ⟨q, hq, z⟩ => hno q (by have := (md_ne hch z.1.1).1; omega) z)⟩ dX5_breaksLink_68
      · refine lv_aload_n hx hb dX5_breaksLink_10 rfl (lv_at hl 0 rfl) ?_
        refine kl_get (C := RX5) (T := TX5) (N := 31) (ci := 5) hx hb hts hinX5 hown hK hP q26 rfl 6 (by decide) (hts (.fieldLink RX5 16 "KinLedgerModel" "cells" "[I") (by decide +kernel)) (fun _ h9 => h9) rfl dX5_breaksLink_11 ?_
        refine lv_iconst (v := nI 4) hx hb dX5_breaksLink_14 (by decide) ?_
        refine lv_iload_n hx hb dX5_breaksLink_15 rfl (lv_at hl 2 rfl) ?_
        refine lv_imul hx hb dX5_breaksLink_16 ?_
        refine kl_top (z := nI (4 * p)) (pk_mul _ _) ?_
        refine lv_aload_n hx hb dX5_breaksLink_17 rfl (lv_at hl 0 rfl) ?_
        refine kl_get (C := RX5) (T := TX5) (N := 31) (ci := 5) hx hb hts hinX5 hown hK hP q26 rfl 13 (by decide) (hts (.fieldLink RX5 32 "KinLedgerModel" "linkColumn" "[I") (by decide +kernel)) (fun _ h9 => h9) rfl dX5_breaksLink_18 ?_
        refine lv_iload_n hx hb dX5_breaksLink_21 rfl (lv_at hl 1 rfl) ?_
        refine kl_iald hx hb hK hP q34 (by omega) (by omega) dX5_breaksLink_22 ?_
        refine kl_top (z := nI (lco k)) rfl ?_
        refine lv_iadd hx hb dX5_breaksLink_23 ?_
        refine kl_top (z := nI (4 * p + lco k)) (by first | exact nI_add _ _ | (rw [nI_add]; first | rfl | (congr 1; omega))) ?_
        refine kl_iald hx hb hK hP q29 (by omega) (by omega) dX5_breaksLink_24 ?_
        refine lv_istore_n (lv' := [(3, .int (D (4 * p + lco k))), (0, .ref (B + 26)), (1, .int (nI k)), (2, .int (nI p))]) hx hb dX5_breaksLink_25 rfl hl (by decide) rfl (fun ls hl => ?_)
        refine lv_aload_n hx hb dX5_breaksLink_26 rfl (lv_at hl 1 rfl) ?_
        refine kl_get (C := RX5) (T := TX5) (N := 31) (ci := 5) hx hb hts hinX5 hown hK hP q26 rfl 5 (by decide) (hts (.fieldLink RX5 13 "KinLedgerModel" "of" "[I") (by decide +kernel)) (fun _ h9 => h9) rfl dX5_breaksLink_27 ?_
        refine lv_iload_n hx hb dX5_breaksLink_30 rfl (lv_at hl 3 rfl) ?_
        refine kl_iald hx hb hK hP q28 (by omega) (by omega) dX5_breaksLink_31 ?_
        refine lv_aload_n hx hb dX5_breaksLink_32 rfl (lv_at hl 1 rfl) ?_
        refine kl_get (C := RX5) (T := TX5) (N := 31) (ci := 5) hx hb hts hinX5 hown hK hP q26 rfl 12 (by decide) (hts (.fieldLink RX5 29 "KinLedgerModel" "child" "[I") (by decide +kernel)) (fun _ h9 => h9) rfl dX5_breaksLink_33 ?_
        refine lv_iload_n hx hb dX5_breaksLink_36 rfl (lv_at hl 2 rfl) ?_
        refine kl_iald hx hb hK hP q33 (by omega) (by omega) dX5_breaksLink_37 ?_
        refine lv_icmp_ne (tgt := 61) hx hb dX5_breaksLink_38 (by decide) (fun c38 => ?_) (fun c38 => ?_)
        · refine lv_iinc (v := nI (p + 1)) (lv' := [(2, .int (nI (p + 1))), (3, .int (D (4 * p + lco k))), (0, .ref (B + 26)), (1, .int (nI k))]) hx hb dX5_breaksLink_61 hl (k := 3) rfl (nI_1 _) (by decide) rfl (fun ls hl => ?_)
          refine lv_goto (tgt := 2) hx hb dX5_breaksLink_64 (by decide) ?_
          exact ih2 (p + 1) (by omega) (by first | omega | grind) (lt_s hno (fun z => c38 ((md_lt (by omega)).symm.trans z.1.1))) _ _ hP ls (lv_sub hl [2, 3, 0] rfl)
        · refine lv_iload_n hx hb dX5_breaksLink_41 rfl (lv_at hl 0 rfl) ?_
          refine lv_if_eq (tgt := 61) hx hb dX5_breaksLink_42 (by decide) (fun c42 => ?_) (fun c42 => ?_)
          · refine lv_iinc (v := nI (p + 1)) (lv' := [(2, .int (nI (p + 1))), (3, .int (D (4 * p + lco k))), (0, .ref (B + 26)), (1, .int (nI k))]) hx hb dX5_breaksLink_61 hl (k := 3) rfl (nI_1 _) (by decide) rfl (fun ls hl => ?_)
            refine lv_goto (tgt := 2) hx hb dX5_breaksLink_64 (by decide) ?_
            exact ih2 (p + 1) (by omega) (by first | omega | grind) (lt_s hno (fun z => z.1.2 c42)) _ _ hP ls (lv_sub hl [2, 3, 0] rfl)
          · refine lv_aload_n hx hb dX5_breaksLink_45 rfl (lv_at hl 1 rfl) ?_
            refine lv_aload_n hx hb dX5_breaksLink_46 rfl (lv_at hl 1 rfl) ?_
            refine kl_get (C := RX5) (T := TX5) (N := 31) (ci := 5) hx hb hts hinX5 hown hK hP q26 rfl 14 (by decide) (hts (.fieldLink RX5 35 "KinLedgerModel" "parent" "[I") (by decide +kernel)) (fun _ h9 => h9) rfl dX5_breaksLink_47 ?_
            refine lv_iload_n hx hb dX5_breaksLink_50 rfl (lv_at hl 2 rfl) ?_
            refine kl_iald hx hb hK hP q35 (by omega) (by omega) dX5_breaksLink_51 ?_
            refine lv_iload_n hx hb dX5_breaksLink_52 rfl (lv_at hl 0 rfl) ?_
            refine kl_cVi (C := RX5) (i := 26) (As := [.int (lpa k), .int (D (4 * p + lco k))]) (rest := []) ⟨hx, hb, hml, hown, hts⟩ (c_X5_find l G B _ (lpa k) (D (4 * p + lco k)) q26 q28 q29 (by omega) hpa) (cwV 2 hts gX5_breaksLink_X5_find rfl rfl rfl (by decide +kernel) ⟨Nat.le_of_ble_eq_true rfl, Nat.le_of_ble_eq_true rfl⟩) hK hP q26 rfl rfl hl.1 rfl (Nat.le_of_ble_eq_true rfl) dX5_breaksLink_53 ⟨Nat.le_of_ble_eq_true rfl, Nat.le_of_ble_eq_true rfl⟩ (fun r3 w1 H locs q2 hP => ?_)
            obtain ⟨rfl, hv4⟩ := q2
            rcases hv4 with ⟨rfl, hv4⟩ | ⟨p5, hp5, rfl, hv4⟩
            · refine lv_if_ge (tgt := 61) hx hb dX5_breaksLink_56 (by decide) (fun c56 => absurd c56 (by decide)) (fun c56 => ?_)
              refine lv_iconst (v := nI 1) hx hb dX5_breaksLink_59 (by decide) ?_
              exact kl_zret hx hb hr hlocks (by decide) hP ⟨rfl, kl_b.t ⟨p, by omega, ⟨(md_lt (by omega)).trans c38, c42⟩, fun q hq z => hv4 q hq z.2.2⟩⟩ dX5_breaksLink_60
            · refine kl_z_ge (tgt := 61) hx hb (by omega) dX5_breaksLink_56 (by decide) ?_
              refine lv_iinc (v := nI (p + 1)) (lv' := [(2, .int (nI (p + 1))), (3, .int (D (4 * p + lco k))), (0, .ref (B + 26)), (1, .int (nI k))]) hx hb dX5_breaksLink_61 hl (k := 3) rfl (nI_1 _) (by decide) rfl (fun ls hl => ?_)
              refine lv_goto (tgt := 2) hx hb dX5_breaksLink_64 (by decide) ?_
              exact ih2 (p + 1) (by omega) (by first | omega | grind) (lt_s hno (fun z => z.2 p5 hp5 ⟨(md_lt (by omega)).trans c38, c42, hv4⟩)) _ _ hP ls (lv_sub hl [2, 3, 0] rfl)
  exact lp2 (n + 1) 0 (Nat.lt_succ_of_le (by omega)) (by first | omega | grind) lt_0 _ _ hP ls (lv_sub hl [1, 2, 0] rfl)

abbrev rm_X5_twice : Room := { frames := 0, cells := 0, slots := 0, locals := 0 }
set_option maxHeartbeats 4000000 in
set_option maxRecDepth 100000 in
theorem c_X5_twice (l : Launch) (G : kl_G) (B : Nat) (w : kl_M) {nT nL nS nC nW nM n on : Nat} {ec rs hi : Int32} {O D : Nat → Int32} (t : Int32) (c : Nat) (q26 : w 26 = some (.inr (5, [.int ec, .int rs, .int (nI nT), .ref (B + 27), .int (nI n), .ref (B + 28), .ref (B + 29), .int (nI on), .ref (B + 30), .ref (B + 31), .ref (B + 32), .int (nI nL), .ref (B + 33), .ref (B + 34), .ref (B + 35), .ref (B + 36), .int (nI nS), .ref (B + 37), .ref (B + 38), .int (nI nC), .ref (B + 39), .ref (B + 40), .ref (B + 41), .int (nI nW), .ref (B + 42), .int hi, .ref (B + 43), .int (nI nM), .ref (B + 44), .ref (B + 45), .ref (B + 46)]))) (q28 : w 28 = some (kl_aI G 24 O)) (q29 : w 29 = some (kl_aI G 96 D)) (hn : n ≤ 24) (hc : c < 4) (ht : t ≠ -1) : Met l yX5_twice wsX5_twice rm_X5_twice (kl_Pc G B w [.ref (B + 26), .int t, .int (nI c)]) (kl_Qi G B (fun r w1 => w = w1 ∧ kl_b r (mt_twin (md_T n O) D t c))) 0 0 (kl_fr B) := by
  refine Met.ofW (cc := cX5_twice) (maxL := 5) (ret := (some .boolean)) (by decide) rfl ?_
  intro pg e s m args below meth cd s₁ Bd hml hv
  obtain ⟨rfl, hP0, hK⟩ := hv
  have hx := Bd.exec
  have hb := Bd.bytes
  have hr := Bd.returns
  have hts := atoms_spec (ws := wsX5_twice) Bd.pre
  have hown : s.vm.findClass RX5 = some m.cls := findClass_of_methodNamed Bd.named
  have hlocks := Bd.notSynchronized
  have hinX5 : ∀ w ∈ u_ws RX5 TX5 31, w ∈ wsX5_twice := by decide +kernel
  have hP := kl_S.rf hP0
  have hl := lv_entry ([.ref (B + 26), .int t, .int (nI c)]) (n := 5) (Nat.le_of_ble_eq_true rfl)
  rw [lg_entry_eq]
  generalize (lg_sl ([.ref (B + 26), .int t, .int (nI c)]) ++ List.replicate (5 - (lg_sl ([.ref (B + 26), .int t, .int (nI c)])).length) Slot.unset).toArray = ls at hl ⊢
  have hl : lv_has ls 5 [(0, .ref (B + 26)), (1, .int t), (2, .int (nI c))] := hl
  refine lv_iconst (v := nI 0) hx hb dX5_twice_0 (by decide) ?_
  refine lv_istore_n (lv' := [(3, .int (nI 0)), (0, .ref (B + 26)), (1, .int t), (2, .int (nI c))]) hx hb dX5_twice_1 rfl hl (by decide) rfl (fun ls hl => ?_)
  have lp2 : ∀ (n2 : Nat) (p : Nat), n - p < n2 → (p ≤ n) → (∀ a, a < p → ∀ b, b < a → ¬ (O a = t ∧ O b = t ∧ D (4 * a + c) = D (4 * b + c) ∧ D (4 * a + c) ≠ 0)) → ∀ (H : Heap) (locs : List Loc), kl_S G B w s.heap H locs → ∀ ls : Array Slot, lv_has ls 5 [(0, .ref (B + 26)), (1, .int t), (2, .int (nI c)), (3, .int (nI p))] → W pg l e rm_X5_twice s m ([.ref (B + 26), .int t, .int (nI c)] : List Value).toArray below meth cd H locs (0) (0) (MQ below (kl_Qi G B (fun r w1 => w = w1 ∧ kl_b r (mt_twin (md_T n O) D t c))) ([.ref (B + 26), .int t, .int (nI c)] : List Value).toArray s 0 0 (kl_fr B)) (F0 m 2 ls []) := by
    intro n2
    induction n2 with
    | zero => intro p hm; exact absurd hm (Nat.not_lt_zero _)
    | succ n2 ih2 =>
      intro p hm hp hno H locs  hP ls hl
      refine lv_iload_n hx hb dX5_twice_2 rfl (lv_at hl 3 rfl) ?_
      refine lv_aload_n hx hb dX5_twice_3 rfl (lv_at hl 0 rfl) ?_
      refine kl_get (C := RX5) (T := TX5) (N := 31) (ci := 5) hx hb hts hinX5 hown hK hP q26 rfl 4 (by decide) (hts (.fieldLink RX5 82 "KinLedgerModel" "rows" "I") (by decide +kernel)) (fun _ h9 => h9) rfl dX5_twice_4 ?_
      refine kl_ge (tgt := 91) hx hb (by omega) (by omega) dX5_twice_7 (by decide) (fun c7 => ?_) (fun c7 => ?_)
      · refine lv_iconst (v := nI 0) hx hb dX5_twice_91 (by decide) ?_
        exact kl_zret hx hb hr hlocks (by decide) hP ⟨rfl, kl_b.f (fun ⟨a, ha, z1, z2, b, hb, z3, z4⟩ => by obtain ⟨y1, y2⟩ := md_ne ht z1; rw [z1] at z3; obtain ⟨y3, y4⟩ := md_ne ht z3; exact hno a (by omega) b hb ⟨y2, y4, z4.symm, z2⟩)⟩ dX5_twice_92
      · refine lv_iconst (v := nI 0) hx hb dX5_twice_10 (by decide) ?_
        refine lv_istore (lv' := [(4, .int (nI 0)), (0, .ref (B + 26)), (1, .int t), (2, .int (nI c)), (3, .int (nI p))]) hx hb dX5_twice_11 hl (by decide) rfl (fun ls hl => ?_)
        have lp13 : ∀ (n13 : Nat) (q : Nat), p - q < n13 → (q ≤ p) → (∀ b, b < q → ¬ (O p = t ∧ O b = t ∧ D (4 * p + c) = D (4 * b + c) ∧ D (4 * p + c) ≠ 0)) → ∀ (H : Heap) (locs : List Loc), kl_S G B w s.heap H locs → ∀ ls : Array Slot, lv_has ls 5 [(0, .ref (B + 26)), (1, .int t), (2, .int (nI c)), (3, .int (nI p)), (4, .int (nI q))] → W pg l e rm_X5_twice s m ([.ref (B + 26), .int t, .int (nI c)] : List Value).toArray below meth cd H locs (0) (0) (MQ below (kl_Qi G B (fun r w1 => w = w1 ∧ kl_b r (mt_twin (md_T n O) D t c))) ([.ref (B + 26), .int t, .int (nI c)] : List Value).toArray s 0 0 (kl_fr B)) (F0 m 13 ls []) := by
          intro n13
          induction n13 with
          | zero => intro q hm; exact absurd hm (Nat.not_lt_zero _)
          | succ n13 ih13 =>
            intro q hm hq hin H locs  hP ls hl
            refine lv_iload hx hb dX5_twice_13 (lv_at hl 4 rfl) ?_
            refine lv_iload_n hx hb dX5_twice_15 rfl (lv_at hl 3 rfl) ?_
            refine kl_ge (tgt := 85) hx hb (by omega) (by omega) dX5_twice_16 (by decide) (fun c16 => ?_) (fun c16 => ?_)
            · refine lv_iinc (v := nI (p + 1)) (lv' := [(3, .int (nI (p + 1))), (0, .ref (B + 26)), (1, .int t), (2, .int (nI c)), (4, .int (nI q))]) hx hb dX5_twice_85 hl (k := 3) rfl (nI_1 _) (by decide) rfl (fun ls hl => ?_)
              refine lv_goto (tgt := 2) hx hb dX5_twice_88 (by decide) ?_
              exact ih2 (p + 1) (by omega) (by first | omega | grind) (lt_s hno (fun b hb => hin b (by omega))) _ _ hP ls (lv_sub hl [1, 2, 3, 0] rfl)
            · refine lv_aload_n hx hb dX5_twice_19 rfl (lv_at hl 0 rfl) ?_
              refine kl_get (C := RX5) (T := TX5) (N := 31) (ci := 5) hx hb hts hinX5 hown hK hP q26 rfl 5 (by decide) (hts (.fieldLink RX5 13 "KinLedgerModel" "of" "[I") (by decide +kernel)) (fun _ h9 => h9) rfl dX5_twice_20 ?_
              refine lv_iload_n hx hb dX5_twice_23 rfl (lv_at hl 3 rfl) ?_
              refine kl_iald hx hb hK hP q28 (by omega) (by omega) dX5_twice_24 ?_
              refine lv_iload_n hx hb dX5_twice_25 rfl (lv_at hl 1 rfl) ?_
              refine lv_icmp_ne (tgt := 79) hx hb dX5_twice_26 (by decide) (fun c26 => ?_) (fun c26 => ?_)
              · refine lv_iinc (v := nI (q + 1)) (lv' := [(4, .int (nI (q + 1))), (0, .ref (B + 26)), (1, .int t), (2, .int (nI c)), (3, .int (nI p))]) hx hb dX5_twice_79 hl (k := 4) rfl (nI_1 _) (by decide) rfl (fun ls hl => ?_)
                refine lv_goto (tgt := 13) hx hb dX5_twice_82 (by decide) ?_
                exact ih13 (q + 1) (by omega) (by first | omega | grind) (lt_s hin (fun z => c26 z.1)) _ _ hP ls (lv_sub hl [1, 2, 3, 4, 0] rfl)
              · refine lv_aload_n hx hb dX5_twice_29 rfl (lv_at hl 0 rfl) ?_
                refine kl_get (C := RX5) (T := TX5) (N := 31) (ci := 5) hx hb hts hinX5 hown hK hP q26 rfl 5 (by decide) (hts (.fieldLink RX5 13 "KinLedgerModel" "of" "[I") (by decide +kernel)) (fun _ h9 => h9) rfl dX5_twice_30 ?_
                refine lv_iload hx hb dX5_twice_33 (lv_at hl 4 rfl) ?_
                refine kl_iald hx hb hK hP q28 (by omega) (by omega) dX5_twice_35 ?_
                refine lv_iload_n hx hb dX5_twice_36 rfl (lv_at hl 1 rfl) ?_
                refine lv_icmp_ne (tgt := 79) hx hb dX5_twice_37 (by decide) (fun c37 => ?_) (fun c37 => ?_)
                · refine lv_iinc (v := nI (q + 1)) (lv' := [(4, .int (nI (q + 1))), (0, .ref (B + 26)), (1, .int t), (2, .int (nI c)), (3, .int (nI p))]) hx hb dX5_twice_79 hl (k := 4) rfl (nI_1 _) (by decide) rfl (fun ls hl => ?_)
                  refine lv_goto (tgt := 13) hx hb dX5_twice_82 (by decide) ?_
                  exact ih13 (q + 1) (by omega) (by first | omega | grind) (lt_s hin (fun z => c37 z.2.1)) _ _ hP ls (lv_sub hl [1, 2, 3, 4, 0] rfl)
                · refine lv_aload_n hx hb dX5_twice_40 rfl (lv_at hl 0 rfl) ?_
                  refine kl_get (C := RX5) (T := TX5) (N := 31) (ci := 5) hx hb hts hinX5 hown hK hP q26 rfl 6 (by decide) (hts (.fieldLink RX5 16 "KinLedgerModel" "cells" "[I") (by decide +kernel)) (fun _ h9 => h9) rfl dX5_twice_41 ?_
                  refine lv_iconst (v := nI 4) hx hb dX5_twice_44 (by decide) ?_
                  refine lv_iload_n hx hb dX5_twice_45 rfl (lv_at hl 3 rfl) ?_
                  refine lv_imul hx hb dX5_twice_46 ?_
                  refine kl_top (z := nI (4 * p)) (pk_mul _ _) ?_
                  refine lv_iload_n hx hb dX5_twice_47 rfl (lv_at hl 2 rfl) ?_
                  refine lv_iadd hx hb dX5_twice_48 ?_
                  refine kl_top (z := nI (4 * p + c)) (by first | exact nI_add _ _ | (rw [nI_add]; first | rfl | (congr 1; omega))) ?_
                  refine kl_iald hx hb hK hP q29 (by omega) (by omega) dX5_twice_49 ?_
                  refine lv_aload_n hx hb dX5_twice_50 rfl (lv_at hl 0 rfl) ?_
                  refine kl_get (C := RX5) (T := TX5) (N := 31) (ci := 5) hx hb hts hinX5 hown hK hP q26 rfl 6 (by decide) (hts (.fieldLink RX5 16 "KinLedgerModel" "cells" "[I") (by decide +kernel)) (fun _ h9 => h9) rfl dX5_twice_51 ?_
                  refine lv_iconst (v := nI 4) hx hb dX5_twice_54 (by decide) ?_
                  refine lv_iload hx hb dX5_twice_55 (lv_at hl 4 rfl) ?_
                  refine lv_imul hx hb dX5_twice_57 ?_
                  refine kl_top (z := nI (4 * q)) (pk_mul _ _) ?_
                  refine lv_iload_n hx hb dX5_twice_58 rfl (lv_at hl 2 rfl) ?_
                  refine lv_iadd hx hb dX5_twice_59 ?_
                  refine kl_top (z := nI (4 * q + c)) (by first | exact nI_add _ _ | (rw [nI_add]; first | rfl | (congr 1; omega))) ?_
                  refine kl_iald hx hb hK hP q29 (by omega) (by omega) dX5_twice_60 ?_
                  refine lv_icmp_ne (tgt := 79) hx hb dX5_twice_61 (by decide) (fun c61 => ?_) (fun c61 => ?_)
                  · refine lv_iinc (v := nI (q + 1)) (lv' := [(4, .int (nI (q + 1))), (0, .ref (B + 26)), (1, .int t), (2, .int (nI c)), (3, .int (nI p))]) hx hb dX5_twice_79 hl (k := 4) rfl (nI_1 _) (by decide) rfl (fun ls hl => ?_)
                    refine lv_goto (tgt := 13) hx hb dX5_twice_82 (by decide) ?_
                    exact ih13 (q + 1) (by omega) (by first | omega | grind) (lt_s hin (fun z => c61 z.2.2.1)) _ _ hP ls (lv_sub hl [1, 2, 3, 4, 0] rfl)
                  · refine lv_aload_n hx hb dX5_twice_64 rfl (lv_at hl 0 rfl) ?_
                    refine kl_get (C := RX5) (T := TX5) (N := 31) (ci := 5) hx hb hts hinX5 hown hK hP q26 rfl 6 (by decide) (hts (.fieldLink RX5 16 "KinLedgerModel" "cells" "[I") (by decide +kernel)) (fun _ h9 => h9) rfl dX5_twice_65 ?_
                    refine lv_iconst (v := nI 4) hx hb dX5_twice_68 (by decide) ?_
                    refine lv_iload_n hx hb dX5_twice_69 rfl (lv_at hl 3 rfl) ?_
                    refine lv_imul hx hb dX5_twice_70 ?_
                    refine kl_top (z := nI (4 * p)) (pk_mul _ _) ?_
                    refine lv_iload_n hx hb dX5_twice_71 rfl (lv_at hl 2 rfl) ?_
                    refine lv_iadd hx hb dX5_twice_72 ?_
                    refine kl_top (z := nI (4 * p + c)) (by first | exact nI_add _ _ | (rw [nI_add]; first | rfl | (congr 1; omega))) ?_
                    refine kl_iald hx hb hK hP q29 (by omega) (by omega) dX5_twice_73 ?_
                    refine lv_if_eq (tgt := 79) hx hb dX5_twice_74 (by decide) (fun c74 => ?_) (fun c74 => ?_)
                    · refine lv_iinc (v := nI (q + 1)) (lv' := [(4, .int (nI (q + 1))), (0, .ref (B + 26)), (1, .int t), (2, .int (nI c)), (3, .int (nI p))]) hx hb dX5_twice_79 hl (k := 4) rfl (nI_1 _) (by decide) rfl (fun ls hl => ?_)
                      refine lv_goto (tgt := 13) hx hb dX5_twice_82 (by decide) ?_
                      exact ih13 (q + 1) (by omega) (by first | omega | grind) (lt_s hin (fun z => z.2.2.2 c74)) _ _ hP ls (lv_sub hl [1, 2, 3, 4, 0] rfl)
                    · refine lv_iconst (v := nI 1) hx hb dX5_twice_77 (by decide) ?_
                      exact kl_zret hx hb hr hlocks (by decide) hP ⟨rfl, kl_b.t ⟨p, by omega, (md_lt (by omega)).trans c26, c74, q, by omega, by rw [md_lt (by omega), md_lt (by omega), c26, c37], c61.symm⟩⟩ dX5_twice_78
        exact lp13 (p + 1) 0 (Nat.lt_succ_of_le (by omega)) (by first | omega | grind) lt_0 _ _ hP ls (lv_sub hl [1, 2, 3, 4, 0] rfl)
  exact lp2 (n + 1) 0 (Nat.lt_succ_of_le (by omega)) (by first | omega | grind) lt_0 _ _ hP ls (lv_sub hl [1, 2, 3, 0] rfl)

abbrev rm_X5_reckon : Room := { frames := 0, cells := 0, slots := 0, locals := 0 }
set_option maxHeartbeats 4000000 in
set_option maxRecDepth 100000 in
theorem c_X5_reckon (l : Launch) (G : kl_G) (B : Nat) (w : kl_M) (u : Nat) (x y : Int32) (hu : 10 ≤ u ∧ u ≤ 16) : Met l yX5_reckon wsX5_reckon rm_X5_reckon (kl_Pc G B w [.int (nI u), .int x, .int y]) (kl_Qi G B (fun r w1 => w = w1 ∧ r = mt_op u x y)) 0 0 (kl_fr B) := by
  refine Met.ofW (cc := cX5_reckon) (maxL := 3) (ret := (some .int)) (by decide) rfl ?_
  intro pg e s m args below meth cd s₁ Bd hml hv
  obtain ⟨rfl, hP0, hK⟩ := hv
  have hx := Bd.exec
  have hb := Bd.bytes
  have hr := Bd.returns
  have hts := atoms_spec (ws := wsX5_reckon) Bd.pre
  have hown : s.vm.findClass RX5 = some m.cls := findClass_of_methodNamed Bd.named
  have hlocks := Bd.notSynchronized
  have hP := kl_S.rf hP0
  have hl := lv_entry ([.int (nI u), .int x, .int y]) (n := 3) (Nat.le_of_ble_eq_true rfl)
  rw [lg_entry_eq]
  generalize (lg_sl ([.int (nI u), .int x, .int y]) ++ List.replicate (3 - (lg_sl ([.int (nI u), .int x, .int y])).length) Slot.unset).toArray = ls at hl ⊢
  have hl : lv_has ls 3 [(0, .int (nI u)), (1, .int x), (2, .int y)] := hl
  refine lv_iload_n hx hb dX5_reckon_0 rfl (lv_at hl 0 rfl) ?_
  rcases (show u = 10 ∨ u = 11 ∨ u = 12 ∨ u = 13 ∨ u = 14 ∨ u = 15 ∨ u = 16 by omega) with rfl | rfl | rfl | rfl | rfl | rfl | rfl
  · refine lv_tableIn (off := 39) (tgt := 40) hx hb dX5_reckon_1 (by decide) (by decide) rfl (by decide) ?_
    refine lv_iload_n hx hb dX5_reckon_40 rfl (lv_at hl 1 rfl) ?_
    refine lv_iload_n hx hb dX5_reckon_41 rfl (lv_at hl 2 rfl) ?_
    refine lv_iadd hx hb dX5_reckon_42 ?_
    exact kl_iret hx hb hr hlocks hP ⟨rfl, rfl⟩ dX5_reckon_43
  · refine lv_tableIn (off := 43) (tgt := 44) hx hb dX5_reckon_1 (by decide) (by decide) rfl (by decide) ?_
    refine lv_iload_n hx hb dX5_reckon_44 rfl (lv_at hl 1 rfl) ?_
    refine lv_iload_n hx hb dX5_reckon_45 rfl (lv_at hl 2 rfl) ?_
    refine lv_isub hx hb dX5_reckon_46 ?_
    exact kl_iret hx hb hr hlocks hP ⟨rfl, rfl⟩ dX5_reckon_47
  · refine lv_tableIn (off := 47) (tgt := 48) hx hb dX5_reckon_1 (by decide) (by decide) rfl (by decide) ?_
    refine lv_iload_n hx hb dX5_reckon_48 rfl (lv_at hl 1 rfl) ?_
    refine lv_iload_n hx hb dX5_reckon_49 rfl (lv_at hl 2 rfl) ?_
    refine lv_imul hx hb dX5_reckon_50 ?_
    exact kl_iret hx hb hr hlocks hP ⟨rfl, rfl⟩ dX5_reckon_51
  · refine lv_tableIn (off := 51) (tgt := 52) hx hb dX5_reckon_1 (by decide) (by decide) rfl (by decide) ?_
    refine lv_iload_n hx hb dX5_reckon_52 rfl (lv_at hl 1 rfl) ?_
    refine lv_iload_n hx hb dX5_reckon_53 rfl (lv_at hl 2 rfl) ?_
    refine lv_icmp_ge (tgt := 61) hx hb dX5_reckon_54 (by decide) (fun c54 => ?_) (fun c54 => ?_)
    · refine lv_iconst (v := nI 0) hx hb dX5_reckon_61 (by decide) ?_
      exact kl_iret hx hb hr hlocks hP ⟨rfl, by show nI 0 = (if x < y then nI 1 else nI 0); rw [if_neg ((fun z => absurd c54 (Int32.not_le.mpr z)))]⟩ dX5_reckon_62
    · refine lv_iconst (v := nI 1) hx hb dX5_reckon_57 (by decide) ?_
      refine lv_goto (tgt := 62) hx hb dX5_reckon_58 (by decide) ?_
      exact kl_iret hx hb hr hlocks hP ⟨rfl, by show nI 1 = (if x < y then nI 1 else nI 0); rw [if_pos (Int32.not_le.mp c54)]⟩ dX5_reckon_62
  · refine lv_tableIn (off := 62) (tgt := 63) hx hb dX5_reckon_1 (by decide) (by decide) rfl (by decide) ?_
    refine lv_iload_n hx hb dX5_reckon_63 rfl (lv_at hl 1 rfl) ?_
    refine lv_iload_n hx hb dX5_reckon_64 rfl (lv_at hl 2 rfl) ?_
    refine lv_icmp_ne (tgt := 72) hx hb dX5_reckon_65 (by decide) (fun c65 => ?_) (fun c65 => ?_)
    · refine lv_iconst (v := nI 0) hx hb dX5_reckon_72 (by decide) ?_
      exact kl_iret hx hb hr hlocks hP ⟨rfl, by show nI 0 = (if x = y then nI 1 else nI 0); rw [if_neg (c65)]⟩ dX5_reckon_73
    · refine lv_iconst (v := nI 1) hx hb dX5_reckon_68 (by decide) ?_
      refine lv_goto (tgt := 73) hx hb dX5_reckon_69 (by decide) ?_
      exact kl_iret hx hb hr hlocks hP ⟨rfl, by show nI 1 = (if x = y then nI 1 else nI 0); rw [if_pos (c65)]⟩ dX5_reckon_73
  · refine lv_tableIn (off := 73) (tgt := 74) hx hb dX5_reckon_1 (by decide) (by decide) rfl (by decide) ?_
    refine lv_iload_n hx hb dX5_reckon_74 rfl (lv_at hl 1 rfl) ?_
    refine lv_if_eq (tgt := 86) hx hb dX5_reckon_75 (by decide) (fun c75 => ?_) (fun c75 => ?_)
    · refine lv_iconst (v := nI 0) hx hb dX5_reckon_86 (by decide) ?_
      exact kl_iret hx hb hr hlocks hP ⟨rfl, by show nI 0 = (if x ≠ 0 ∧ y ≠ 0 then nI 1 else nI 0); rw [if_neg ((fun z => z.1 c75))]⟩ dX5_reckon_87
    · refine lv_iload_n hx hb dX5_reckon_78 rfl (lv_at hl 2 rfl) ?_
      refine lv_if_eq (tgt := 86) hx hb dX5_reckon_79 (by decide) (fun c79 => ?_) (fun c79 => ?_)
      · refine lv_iconst (v := nI 0) hx hb dX5_reckon_86 (by decide) ?_
        exact kl_iret hx hb hr hlocks hP ⟨rfl, by show nI 0 = (if x ≠ 0 ∧ y ≠ 0 then nI 1 else nI 0); rw [if_neg ((fun z => z.2 c79))]⟩ dX5_reckon_87
      · refine lv_iconst (v := nI 1) hx hb dX5_reckon_82 (by decide) ?_
        refine lv_goto (tgt := 87) hx hb dX5_reckon_83 (by decide) ?_
        exact kl_iret hx hb hr hlocks hP ⟨rfl, by show nI 1 = (if x ≠ 0 ∧ y ≠ 0 then nI 1 else nI 0); rw [if_pos (⟨c75, c79⟩)]⟩ dX5_reckon_87
  · refine lv_tableOut (tgt := 88) hx hb dX5_reckon_1 (by decide) (by decide) ?_
    refine lv_iload_n hx hb dX5_reckon_88 rfl (lv_at hl 1 rfl) ?_
    refine lv_if_ne (tgt := 96) hx hb dX5_reckon_89 (by decide) (fun c89 => ?_) (fun c89 => ?_)
    · refine lv_iconst (v := nI 1) hx hb dX5_reckon_96 (by decide) ?_
      refine lv_goto (tgt := 101) hx hb dX5_reckon_97 (by decide) ?_
      exact kl_iret hx hb hr hlocks hP ⟨rfl, by show nI 1 = (if x ≠ 0 ∨ y ≠ 0 then nI 1 else nI 0); rw [if_pos (Or.inl c89)]⟩ dX5_reckon_101
    · refine lv_iload_n hx hb dX5_reckon_92 rfl (lv_at hl 2 rfl) ?_
      refine lv_if_eq (tgt := 100) hx hb dX5_reckon_93 (by decide) (fun c93 => ?_) (fun c93 => ?_)
      · refine lv_iconst (v := nI 0) hx hb dX5_reckon_100 (by decide) ?_
        exact kl_iret hx hb hr hlocks hP ⟨rfl, by show nI 0 = (if x ≠ 0 ∨ y ≠ 0 then nI 1 else nI 0); rw [if_neg ((fun z => z.elim (fun z => z c89) (fun z => z c93)))]⟩ dX5_reckon_101
      · refine lv_iconst (v := nI 1) hx hb dX5_reckon_96 (by decide) ?_
        refine lv_goto (tgt := 101) hx hb dX5_reckon_97 (by decide) ?_
        exact kl_iret hx hb hr hlocks hP ⟨rfl, by show nI 1 = (if x ≠ 0 ∨ y ≠ 0 then nI 1 else nI 0); rw [if_pos (Or.inr c93)]⟩ dX5_reckon_101

abbrev rm_X5_result : Room := { frames := 1, cells := 0, slots := 0, locals := 22 }
set_option maxHeartbeats 4000000 in
set_option maxRecDepth 100000 in
theorem c_X5_result (l : Launch) (G : kl_G) (B : Nat) (w : kl_M) {nT nL nS nC nW nM n on : Nat} {ec rs hi : Int32} {D : Nat → Int32} {cln cw : Nat → Nat} {pl : Nat → Int32} (cols : Nat) (wd : Nat → Nat) (k row : Nat) (q26 : w 26 = some (.inr (5, [.int ec, .int rs, .int (nI nT), .ref (B + 27), .int (nI n), .ref (B + 28), .ref (B + 29), .int (nI on), .ref (B + 30), .ref (B + 31), .ref (B + 32), .int (nI nL), .ref (B + 33), .ref (B + 34), .ref (B + 35), .ref (B + 36), .int (nI nS), .ref (B + 37), .ref (B + 38), .int (nI nC), .ref (B + 39), .ref (B + 40), .ref (B + 41), .int (nI nW), .ref (B + 42), .int hi, .ref (B + 43), .int (nI nM), .ref (B + 44), .ref (B + 45), .ref (B + 46)]))) (q29 : w 29 = some (kl_aI G 96 D)) (q40 : w 40 = some (kl_aI G 5 ((fun t => nI (cln t))))) (q41 : w 41 = some (kl_aI G 50 ((fun t => nI (cw t))))) (q43 : w 43 = some (kl_aI G 12 pl)) (hk : k < 5) (hrow : row < 24) (hwd : ∀ i, wd i = cw (10 * k + i)) (hrt : mt_right wd cols (cln k)) (hc4 : cols ≤ 4) (hw : ∀ j, j < cln k → mt_wok (wd j)) (hl10 : cln k ≤ 10) : Met l yX5_result wsX5_result rm_X5_result (kl_Pc G B w [.ref (B + 26), .int (nI k), .int (nI row)]) (kl_Qi G B (fun r w1 => r = mt_ev wd (cln k) (fun j => D (4 * row + j)) ∧ (∃ h2, w1 26 = some (.inr (5, [.int ec, .int rs, .int (nI nT), .ref (B + 27), .int (nI n), .ref (B + 28), .ref (B + 29), .int (nI on), .ref (B + 30), .ref (B + 31), .ref (B + 32), .int (nI nL), .ref (B + 33), .ref (B + 34), .ref (B + 35), .ref (B + 36), .int (nI nS), .ref (B + 37), .ref (B + 38), .int (nI nC), .ref (B + 39), .ref (B + 40), .ref (B + 41), .int (nI nW), .ref (B + 42), .int h2, .ref (B + 43), .int (nI nM), .ref (B + 44), .ref (B + 45), .ref (B + 46)]))) ∧ (∃ pl2, w1 43 = some (kl_aI G 12 pl2)) ∧ ∀ j : Nat, j ≠ 26 → j ≠ 43 → w1 j = w j)) 0 0 (kl_fr B) := by
  refine Met.ofW (cc := cX5_result) (maxL := 5) (ret := (some .int)) (by decide) rfl ?_
  intro pg e s m args below meth cd s₁ Bd hml hv
  obtain ⟨rfl, hP0, hK⟩ := hv
  have hx := Bd.exec
  have hb := Bd.bytes
  have hr := Bd.returns
  have hts := atoms_spec (ws := wsX5_result) Bd.pre
  have hown : s.vm.findClass RX5 = some m.cls := findClass_of_methodNamed Bd.named
  have hlocks := Bd.notSynchronized
  have hinX5 : ∀ w ∈ u_ws RX5 TX5 31, w ∈ wsX5_result := by decide +kernel
  have hP := kl_S.rf hP0
  have hl := lv_entry ([.ref (B + 26), .int (nI k), .int (nI row)]) (n := 5) (Nat.le_of_ble_eq_true rfl)
  rw [lg_entry_eq]
  generalize (lg_sl ([.ref (B + 26), .int (nI k), .int (nI row)]) ++ List.replicate (5 - (lg_sl ([.ref (B + 26), .int (nI k), .int (nI row)])).length) Slot.unset).toArray = ls at hl ⊢
  have hl : lv_has ls 5 [(0, .ref (B + 26)), (1, .int (nI k)), (2, .int (nI row))] := hl
  have frm : ∀ j : Nat, j ≠ 26 → j ≠ 43 → w j = w j := fun j _ _ => rfl
  refine lv_aload_n hx hb dX5_result_0 rfl (lv_at hl 0 rfl) ?_
  refine lv_iconst (v := nI 0) hx hb dX5_result_1 (by decide) ?_
  refine kl_put (C := RX5) (T := TX5) (N := 31) (ci := 5) (v := .int (nI 0)) (ty := .int) hx hb hts hinX5 tyX5 tyX5_ok nmX5 hown hK hP q26 rfl 25 (by decide) (hts (.fieldLink RX5 89 "KinLedgerModel" "high" "I") (by decide +kernel)) (fun _ h9 => h9) rfl (by decide +kernel) rfl rfl (Nat.le_of_ble_eq_true rfl) dX5_result_2 (fun w1 H locs f2 fr3 hzw1 hP => ?_)
  have f2 : w1 26 = some (.inr (5, [.int ec, .int rs, .int (nI nT), .ref (B + 27), .int (nI n), .ref (B + 28), .ref (B + 29), .int (nI on), .ref (B + 30), .ref (B + 31), .ref (B + 32), .int (nI nL), .ref (B + 33), .ref (B + 34), .ref (B + 35), .ref (B + 36), .int (nI nS), .ref (B + 37), .ref (B + 38), .int (nI nC), .ref (B + 39), .ref (B + 40), .ref (B + 41), .int (nI nW), .ref (B + 42), .int (nI 0), .ref (B + 43), .int (nI nM), .ref (B + 44), .ref (B + 45), .ref (B + 46)])) := f2
  have q29 : w1 29 = some (kl_aI G 96 D) := (fr3 _ (by decide)).trans q29
  have q40 : w1 40 = some (kl_aI G 5 ((fun t => nI (cln t)))) := (fr3 _ (by decide)).trans q40
  have q41 : w1 41 = some (kl_aI G 50 ((fun t => nI (cw t)))) := (fr3 _ (by decide)).trans q41
  have q43 : w1 43 = some (kl_aI G 12 pl) := (fr3 _ (by decide)).trans q43
  have frm : ∀ j : Nat, j ≠ 26 → j ≠ 43 → w1 j = w j := fun j k0 k1 => (fr3 j k0).trans (frm j k0 k1)
  refine lv_iconst (v := nI 0) hx hb dX5_result_5 (by decide) ?_
  refine lv_istore_n (lv' := [(3, .int (nI 0)), (0, .ref (B + 26)), (1, .int (nI k)), (2, .int (nI row))]) hx hb dX5_result_6 rfl hl (by decide) rfl (fun ls hl => ?_)
  have lp7 : ∀ (n7 : Nat) (u : Nat) (h : Nat) (gg : Nat → Int32), cln k - u < n7 → (u ≤ cln k) → (mt_h wd cols u = some h) → (∀ j, j < h → gg j = mt_pile wd (fun j => D (4 * row + j)) u j) → ∀ (w1 : kl_M) (H : Heap) (locs : List Loc), w1 26 = some (.inr (5, [.int ec, .int rs, .int (nI nT), .ref (B + 27), .int (nI n), .ref (B + 28), .ref (B + 29), .int (nI on), .ref (B + 30), .ref (B + 31), .ref (B + 32), .int (nI nL), .ref (B + 33), .ref (B + 34), .ref (B + 35), .ref (B + 36), .int (nI nS), .ref (B + 37), .ref (B + 38), .int (nI nC), .ref (B + 39), .ref (B + 40), .ref (B + 41), .int (nI nW), .ref (B + 42), .int (nI h), .ref (B + 43), .int (nI nM), .ref (B + 44), .ref (B + 45), .ref (B + 46)])) → w1 29 = some (kl_aI G 96 D) → w1 40 = some (kl_aI G 5 ((fun t => nI (cln t)))) → w1 41 = some (kl_aI G 50 ((fun t => nI (cw t)))) → w1 43 = some (kl_aI G 12 gg) → (∀ j : Nat, j ≠ 26 → j ≠ 43 → w1 j = w j) → kl_S G B w1 s.heap H locs → ∀ ls : Array Slot, lv_has ls 5 [(0, .ref (B + 26)), (1, .int (nI k)), (2, .int (nI row)), (3, .int (nI u))] → W pg l e rm_X5_result s m ([.ref (B + 26), .int (nI k), .int (nI row)] : List Value).toArray below meth cd H locs (0) (0) (MQ below (kl_Qi G B (fun r w1 => r = mt_ev wd (cln k) (fun j => D (4 * row + j)) ∧ (∃ h2, w1 26 = some (.inr (5, [.int ec, .int rs, .int (nI nT), .ref (B + 27), .int (nI n), .ref (B + 28), .ref (B + 29), .int (nI on), .ref (B + 30), .ref (B + 31), .ref (B + 32), .int (nI nL), .ref (B + 33), .ref (B + 34), .ref (B + 35), .ref (B + 36), .int (nI nS), .ref (B + 37), .ref (B + 38), .int (nI nC), .ref (B + 39), .ref (B + 40), .ref (B + 41), .int (nI nW), .ref (B + 42), .int h2, .ref (B + 43), .int (nI nM), .ref (B + 44), .ref (B + 45), .ref (B + 46)]))) ∧ (∃ pl2, w1 43 = some (kl_aI G 12 pl2)) ∧ ∀ j : Nat, j ≠ 26 → j ≠ 43 → w1 j = w j)) ([.ref (B + 26), .int (nI k), .int (nI row)] : List Value).toArray s 0 0 (kl_fr B)) (F0 m 7 ls []) := by
    intro n7
    induction n7 with
    | zero => intro u h gg hm; exact absurd hm (Nat.not_lt_zero _)
    | succ n7 ih7 =>
      intro u h gg hm hu hh hg w1 H locs f2 q29 q40 q41 q43 frm hP ls hl
      refine lv_iload_n hx hb dX5_result_7 rfl (lv_at hl 3 rfl) ?_
      refine lv_aload_n hx hb dX5_result_8 rfl (lv_at hl 0 rfl) ?_
      refine kl_get (C := RX5) (T := TX5) (N := 31) (ci := 5) hx hb hts hinX5 hown hK hP f2 rfl 21 (by decide) (hts (.fieldLink RX5 50 "KinLedgerModel" "checkLength" "[I") (by decide +kernel)) (fun _ h9 => h9) rfl dX5_result_9 ?_
      refine lv_iload_n hx hb dX5_result_12 rfl (lv_at hl 1 rfl) ?_
      refine kl_iald hx hb hK hP q40 (by omega) (by omega) dX5_result_13 ?_
      refine kl_top (z := nI (cln k)) rfl ?_
      refine kl_ge (tgt := 183) hx hb (by omega) (by omega) dX5_result_14 (by decide) (fun c14 => ?_) (fun c14 => ?_)
      · have hn0 := mt_right_pos hrt
        refine lv_aload_n hx hb dX5_result_183 rfl (lv_at hl 0 rfl) ?_
        refine kl_get (C := RX5) (T := TX5) (N := 31) (ci := 5) hx hb hts hinX5 hown hK hP f2 rfl 26 (by decide) (hts (.fieldLink RX5 59 "KinLedgerModel" "pile" "[I") (by decide +kernel)) (fun _ h9 => h9) rfl dX5_result_184 ?_
        refine lv_iconst (v := nI 0) hx hb dX5_result_187 (by decide) ?_
        refine kl_iald hx hb hK hP q43 (by omega) (by omega) dX5_result_188 ?_
        exact kl_iret hx hb hr hlocks hP ⟨by have e1 : cln k = u := (by omega); rw [e1] at hrt ⊢; have e2 : h = 1 := Option.some.inj (hh.symm.trans hrt); exact hg 0 (by omega), ⟨_, f2⟩, ⟨_, q43⟩, frm⟩ dX5_result_189
      · refine lv_aload_n hx hb dX5_result_17 rfl (lv_at hl 0 rfl) ?_
        refine kl_get (C := RX5) (T := TX5) (N := 31) (ci := 5) hx hb hts hinX5 hown hK hP f2 rfl 22 (by decide) (hts (.fieldLink RX5 53 "KinLedgerModel" "checkWords" "[I") (by decide +kernel)) (fun _ h9 => h9) rfl dX5_result_18 ?_
        refine lv_bipush (v := nI 10) hx hb dX5_result_21 (by decide) ?_
        refine lv_iload_n hx hb dX5_result_23 rfl (lv_at hl 1 rfl) ?_
        refine lv_imul hx hb dX5_result_24 ?_
        refine kl_top (z := nI (10 * k)) (pk_mul _ _) ?_
        refine lv_iload_n hx hb dX5_result_25 rfl (lv_at hl 3 rfl) ?_
        refine lv_iadd hx hb dX5_result_26 ?_
        refine kl_top (z := nI (10 * k + u)) (by first | exact nI_add _ _ | (rw [nI_add]; first | rfl | (congr 1; omega))) ?_
        refine kl_iald hx hb hK hP q41 (by omega) (by omega) dX5_result_27 ?_
        refine kl_top (z := nI (cw (10 * k + u))) rfl ?_
        refine kl_top (z := nI (wd u)) (congrArg nI (hwd u).symm) ?_
        obtain ⟨y, hy⟩ := mt_h_some hrt (u + 1) (by omega)
        obtain ⟨hok, rfl⟩ := mt_h_inv hh hy
        have hwo := hw u (by omega)
        have hwl : wd u < 2 ^ 30 := by unfold mt_wok at hwo; omega
        have htk := mt_tk_le (wd u)
        have hlu := mt_h_le hh
        unfold mt_wok at hwo
        refine lv_istore (lv' := [(4, .int (nI (wd u))), (0, .ref (B + 26)), (1, .int (nI k)), (2, .int (nI row)), (3, .int (nI u))]) hx hb dX5_result_28 hl (by decide) rfl (fun ls hl => ?_)
        refine lv_iload hx hb dX5_result_30 (lv_at hl 0 rfl) ?_
        refine lv_iconst (v := nI 4) hx hb dX5_result_32 (by decide) ?_
        refine kl_lt (tgt := 43) hx hb (by omega) (by omega) dX5_result_33 (by decide) (fun c33 => ?_) (fun c33 => ?_)
        · have hkt : mt_tk (wd u) = 0 := by unfold mt_tk; exact if_pos (by omega)
          refine lv_aload_n hx hb dX5_result_43 rfl (lv_at hl 1 rfl) ?_
          refine kl_get (C := RX5) (T := TX5) (N := 31) (ci := 5) hx hb hts hinX5 hown hK hP f2 rfl 26 (by decide) (hts (.fieldLink RX5 59 "KinLedgerModel" "pile" "[I") (by decide +kernel)) (fun _ h9 => h9) rfl dX5_result_44 ?_
          refine lv_aload_n hx hb dX5_result_47 rfl (lv_at hl 1 rfl) ?_
          refine kl_get (C := RX5) (T := TX5) (N := 31) (ci := 5) hx hb hts hinX5 hown hK hP f2 rfl 25 (by decide) (hts (.fieldLink RX5 89 "KinLedgerModel" "high" "I") (by decide +kernel)) (fun _ h9 => h9) rfl dX5_result_48 ?_
          refine lv_iload hx hb dX5_result_51 (lv_at hl 0 rfl) ?_
          refine lv_iconst (v := nI 4) hx hb dX5_result_53 (by decide) ?_
          refine kl_ge (tgt := 71) hx hb (by omega) (by omega) dX5_result_54 (by decide) (fun c54 => ?_) (fun c54 => ?_)
          · refine lv_iload hx hb dX5_result_71 (lv_at hl 0 rfl) ?_
            refine lv_sipush (v := nI 200) hx hb dX5_result_73 (by decide) ?_
            refine lv_isub hx hb dX5_result_76 ?_
            refine kl_iast hx hb hK hP q43 (by omega) (by omega) dX5_result_77 (fun w4 H locs f5 fr6 hzw4 hP => ?_)
            have f2 : w4 26 = some (.inr (5, [.int ec, .int rs, .int (nI nT), .ref (B + 27), .int (nI n), .ref (B + 28), .ref (B + 29), .int (nI on), .ref (B + 30), .ref (B + 31), .ref (B + 32), .int (nI nL), .ref (B + 33), .ref (B + 34), .ref (B + 35), .ref (B + 36), .int (nI nS), .ref (B + 37), .ref (B + 38), .int (nI nC), .ref (B + 39), .ref (B + 40), .ref (B + 41), .int (nI nW), .ref (B + 42), .int (nI h), .ref (B + 43), .int (nI nM), .ref (B + 44), .ref (B + 45), .ref (B + 46)])) := (fr6 _ (by decide)).trans f2
            have q29 : w4 29 = some (kl_aI G 96 D) := (fr6 _ (by decide)).trans q29
            have q40 : w4 40 = some (kl_aI G 5 ((fun t => nI (cln t)))) := (fr6 _ (by decide)).trans q40
            have q41 : w4 41 = some (kl_aI G 50 ((fun t => nI (cw t)))) := (fr6 _ (by decide)).trans q41
            have frm : ∀ j : Nat, j ≠ 26 → j ≠ 43 → w4 j = w j := fun j k0 k1 => (fr6 j k1).trans (frm j k0 k1)
            refine lv_aload_n hx hb dX5_result_78 rfl (lv_at hl 1 rfl) ?_
            refine lv_dup hx hb dX5_result_79 rfl ?_
            refine kl_get (C := RX5) (T := TX5) (N := 31) (ci := 5) hx hb hts hinX5 hown hK hP f2 rfl 25 (by decide) (hts (.fieldLink RX5 89 "KinLedgerModel" "high" "I") (by decide +kernel)) (fun _ h9 => h9) rfl dX5_result_80 ?_
            refine lv_iconst (v := nI 1) hx hb dX5_result_83 (by decide) ?_
            refine lv_iadd hx hb dX5_result_84 ?_
            refine kl_top (z := nI (h + 1)) (by first | exact nI_add _ _ | (rw [nI_add]; first | rfl | (congr 1; omega))) ?_
            refine kl_put (C := RX5) (T := TX5) (N := 31) (ci := 5) (v := .int (nI (h + 1))) (ty := .int) hx hb hts hinX5 tyX5 tyX5_ok nmX5 hown hK hP f2 rfl 25 (by decide) (hts (.fieldLink RX5 89 "KinLedgerModel" "high" "I") (by decide +kernel)) (fun _ h9 => h9) rfl (by decide +kernel) rfl rfl (Nat.le_of_ble_eq_true rfl) dX5_result_85 (fun w7 H locs f8 fr9 hzw7 hP => ?_)
            have f8 : w7 26 = some (.inr (5, [.int ec, .int rs, .int (nI nT), .ref (B + 27), .int (nI n), .ref (B + 28), .ref (B + 29), .int (nI on), .ref (B + 30), .ref (B + 31), .ref (B + 32), .int (nI nL), .ref (B + 33), .ref (B + 34), .ref (B + 35), .ref (B + 36), .int (nI nS), .ref (B + 37), .ref (B + 38), .int (nI nC), .ref (B + 39), .ref (B + 40), .ref (B + 41), .int (nI nW), .ref (B + 42), .int (nI (h + 1)), .ref (B + 43), .int (nI nM), .ref (B + 44), .ref (B + 45), .ref (B + 46)])) := f8
            have q29 : w7 29 = some (kl_aI G 96 D) := (fr9 _ (by decide)).trans q29
            have q40 : w7 40 = some (kl_aI G 5 ((fun t => nI (cln t)))) := (fr9 _ (by decide)).trans q40
            have q41 : w7 41 = some (kl_aI G 50 ((fun t => nI (cw t)))) := (fr9 _ (by decide)).trans q41
            have f5 : w7 43 = some (kl_aI G 12 (upd gg h (nI (wd u) - nI 200))) := (fr9 _ (by decide)).trans f5
            have frm : ∀ j : Nat, j ≠ 26 → j ≠ 43 → w7 j = w j := fun j k0 k1 => (fr9 j k0).trans (frm j k0 k1)
            refine lv_goto (tgt := 177) hx hb dX5_result_88 (by decide) ?_
            refine lv_iinc (v := nI (u + 1)) (lv' := [(3, .int (nI (u + 1))), (4, .int (nI (wd u))), (0, .ref (B + 26)), (1, .int (nI k)), (2, .int (nI row))]) hx hb dX5_result_177 hl (k := 4) rfl (nI_1 _) (by decide) rfl (fun ls hl => ?_)
            refine lv_goto (tgt := 7) hx hb dX5_result_180 (by decide) ?_
            exact ih7 (u + 1) (h + 1) (upd gg h (nI (wd u) - nI 200)) (by omega) (by first | omega | grind) (by rw [hkt] at hy; exact hy.trans (congrArg some (by omega))) (by have h9 := mt_pile_step (V := (nI (wd u) - nI 200)) (mt_hh_eq hh) (by omega) hg (by unfold mt_val; rw [if_pos hkt]; unfold mt_lay; exact (if_neg (by omega)).symm); rw [show h - mt_tk (wd u) = h by omega] at h9; exact fun j hj => h9 j (by omega)) _ _ _ f8 q29 q40 q41 f5 frm hP ls (lv_sub hl [2, 3, 4, 0] rfl)
          · refine lv_aload_n hx hb dX5_result_57 rfl (lv_at hl 1 rfl) ?_
            refine kl_get (C := RX5) (T := TX5) (N := 31) (ci := 5) hx hb hts hinX5 hown hK hP f2 rfl 6 (by decide) (hts (.fieldLink RX5 16 "KinLedgerModel" "cells" "[I") (by decide +kernel)) (fun _ h9 => h9) rfl dX5_result_58 ?_
            refine lv_iconst (v := nI 4) hx hb dX5_result_61 (by decide) ?_
            refine lv_iload_n hx hb dX5_result_62 rfl (lv_at hl 3 rfl) ?_
            refine lv_imul hx hb dX5_result_63 ?_
            refine kl_top (z := nI (4 * row)) (pk_mul _ _) ?_
            refine lv_iload hx hb dX5_result_64 (lv_at hl 0 rfl) ?_
            refine lv_iadd hx hb dX5_result_66 ?_
            refine kl_top (z := nI (4 * row + wd u)) (by first | exact nI_add _ _ | (rw [nI_add]; first | rfl | (congr 1; omega))) ?_
            refine kl_iald hx hb hK hP q29 (by omega) (by omega) dX5_result_67 ?_
            refine lv_goto (tgt := 77) hx hb dX5_result_68 (by decide) ?_
            refine kl_iast hx hb hK hP q43 (by omega) (by omega) dX5_result_77 (fun w10 H locs f11 fr12 hzw10 hP => ?_)
            have f2 : w10 26 = some (.inr (5, [.int ec, .int rs, .int (nI nT), .ref (B + 27), .int (nI n), .ref (B + 28), .ref (B + 29), .int (nI on), .ref (B + 30), .ref (B + 31), .ref (B + 32), .int (nI nL), .ref (B + 33), .ref (B + 34), .ref (B + 35), .ref (B + 36), .int (nI nS), .ref (B + 37), .ref (B + 38), .int (nI nC), .ref (B + 39), .ref (B + 40), .ref (B + 41), .int (nI nW), .ref (B + 42), .int (nI h), .ref (B + 43), .int (nI nM), .ref (B + 44), .ref (B + 45), .ref (B + 46)])) := (fr12 _ (by decide)).trans f2
            have q29 : w10 29 = some (kl_aI G 96 D) := (fr12 _ (by decide)).trans q29
            have q40 : w10 40 = some (kl_aI G 5 ((fun t => nI (cln t)))) := (fr12 _ (by decide)).trans q40
            have q41 : w10 41 = some (kl_aI G 50 ((fun t => nI (cw t)))) := (fr12 _ (by decide)).trans q41
            have frm : ∀ j : Nat, j ≠ 26 → j ≠ 43 → w10 j = w j := fun j k0 k1 => (fr12 j k1).trans (frm j k0 k1)
            refine lv_aload_n hx hb dX5_result_78 rfl (lv_at hl 1 rfl) ?_
            refine lv_dup hx hb dX5_result_79 rfl ?_
            refine kl_get (C := RX5) (T := TX5) (N := 31) (ci := 5) hx hb hts hinX5 hown hK hP f2 rfl 25 (by decide) (hts (.fieldLink RX5 89 "KinLedgerModel" "high" "I") (by decide +kernel)) (fun _ h9 => h9) rfl dX5_result_80 ?_
            refine lv_iconst (v := nI 1) hx hb dX5_result_83 (by decide) ?_
            refine lv_iadd hx hb dX5_result_84 ?_
            refine kl_top (z := nI (h + 1)) (by first | exact nI_add _ _ | (rw [nI_add]; first | rfl | (congr 1; omega))) ?_
            refine kl_put (C := RX5) (T := TX5) (N := 31) (ci := 5) (v := .int (nI (h + 1))) (ty := .int) hx hb hts hinX5 tyX5 tyX5_ok nmX5 hown hK hP f2 rfl 25 (by decide) (hts (.fieldLink RX5 89 "KinLedgerModel" "high" "I") (by decide +kernel)) (fun _ h9 => h9) rfl (by decide +kernel) rfl rfl (Nat.le_of_ble_eq_true rfl) dX5_result_85 (fun w13 H locs f14 fr15 hzw13 hP => ?_)
            have f14 : w13 26 = some (.inr (5, [.int ec, .int rs, .int (nI nT), .ref (B + 27), .int (nI n), .ref (B + 28), .ref (B + 29), .int (nI on), .ref (B + 30), .ref (B + 31), .ref (B + 32), .int (nI nL), .ref (B + 33), .ref (B + 34), .ref (B + 35), .ref (B + 36), .int (nI nS), .ref (B + 37), .ref (B + 38), .int (nI nC), .ref (B + 39), .ref (B + 40), .ref (B + 41), .int (nI nW), .ref (B + 42), .int (nI (h + 1)), .ref (B + 43), .int (nI nM), .ref (B + 44), .ref (B + 45), .ref (B + 46)])) := f14
            have q29 : w13 29 = some (kl_aI G 96 D) := (fr15 _ (by decide)).trans q29
            have q40 : w13 40 = some (kl_aI G 5 ((fun t => nI (cln t)))) := (fr15 _ (by decide)).trans q40
            have q41 : w13 41 = some (kl_aI G 50 ((fun t => nI (cw t)))) := (fr15 _ (by decide)).trans q41
            have f11 : w13 43 = some (kl_aI G 12 (upd gg h (D (4 * row + wd u)))) := (fr15 _ (by decide)).trans f11
            have frm : ∀ j : Nat, j ≠ 26 → j ≠ 43 → w13 j = w j := fun j k0 k1 => (fr15 j k0).trans (frm j k0 k1)
            refine lv_goto (tgt := 177) hx hb dX5_result_88 (by decide) ?_
            refine lv_iinc (v := nI (u + 1)) (lv' := [(3, .int (nI (u + 1))), (4, .int (nI (wd u))), (0, .ref (B + 26)), (1, .int (nI k)), (2, .int (nI row))]) hx hb dX5_result_177 hl (k := 4) rfl (nI_1 _) (by decide) rfl (fun ls hl => ?_)
            refine lv_goto (tgt := 7) hx hb dX5_result_180 (by decide) ?_
            exact ih7 (u + 1) (h + 1) (upd gg h (D (4 * row + wd u))) (by omega) (by first | omega | grind) (by rw [hkt] at hy; exact hy.trans (congrArg some (by omega))) (by have h9 := mt_pile_step (V := (D (4 * row + wd u))) (mt_hh_eq hh) (by omega) hg (by unfold mt_val; rw [if_pos hkt]; unfold mt_lay; exact (if_pos (by omega)).symm); rw [show h - mt_tk (wd u) = h by omega] at h9; exact fun j hj => h9 j (by omega)) _ _ _ f14 q29 q40 q41 f11 frm hP ls (lv_sub hl [2, 3, 4, 0] rfl)
        · refine lv_iload hx hb dX5_result_36 (lv_at hl 0 rfl) ?_
          refine lv_bipush (v := nI 100) hx hb dX5_result_38 (by decide) ?_
          refine kl_lt (tgt := 91) hx hb (by omega) (by omega) dX5_result_40 (by decide) (fun c40 => ?_) (fun c40 => ?_)
          · refine lv_iload hx hb dX5_result_91 (lv_at hl 0 rfl) ?_
            refine lv_bipush (v := nI 17) hx hb dX5_result_93 (by decide) ?_
            refine kl_ne (tgt := 131) hx hb (by omega) (by omega) dX5_result_95 (by decide) (fun c95 => ?_) (fun c95 => ?_)
            · have hkt : mt_tk (wd u) = 2 := by unfold mt_tk; rw [if_neg (by omega)]; exact if_neg c95
              refine lv_aload_n hx hb dX5_result_131 rfl (lv_at hl 1 rfl) ?_
              refine lv_dup hx hb dX5_result_132 rfl ?_
              refine kl_get (C := RX5) (T := TX5) (N := 31) (ci := 5) hx hb hts hinX5 hown hK hP f2 rfl 25 (by decide) (hts (.fieldLink RX5 89 "KinLedgerModel" "high" "I") (by decide +kernel)) (fun _ h9 => h9) rfl dX5_result_133 ?_
              refine lv_iconst (v := nI 1) hx hb dX5_result_136 (by decide) ?_
              refine lv_isub hx hb dX5_result_137 ?_
              refine kl_top (z := nI (h - 1)) (by first | exact pk_sub (by omega) | (rw [pk_sub (by omega)]; congr 1; omega)) ?_
              refine kl_put (C := RX5) (T := TX5) (N := 31) (ci := 5) (v := .int (nI (h - 1))) (ty := .int) hx hb hts hinX5 tyX5 tyX5_ok nmX5 hown hK hP f2 rfl 25 (by decide) (hts (.fieldLink RX5 89 "KinLedgerModel" "high" "I") (by decide +kernel)) (fun _ h9 => h9) rfl (by decide +kernel) rfl rfl (Nat.le_of_ble_eq_true rfl) dX5_result_138 (fun w16 H locs f17 fr18 hzw16 hP => ?_)
              have f17 : w16 26 = some (.inr (5, [.int ec, .int rs, .int (nI nT), .ref (B + 27), .int (nI n), .ref (B + 28), .ref (B + 29), .int (nI on), .ref (B + 30), .ref (B + 31), .ref (B + 32), .int (nI nL), .ref (B + 33), .ref (B + 34), .ref (B + 35), .ref (B + 36), .int (nI nS), .ref (B + 37), .ref (B + 38), .int (nI nC), .ref (B + 39), .ref (B + 40), .ref (B + 41), .int (nI nW), .ref (B + 42), .int (nI (h - 1)), .ref (B + 43), .int (nI nM), .ref (B + 44), .ref (B + 45), .ref (B + 46)])) := f17
              have q29 : w16 29 = some (kl_aI G 96 D) := (fr18 _ (by decide)).trans q29
              have q40 : w16 40 = some (kl_aI G 5 ((fun t => nI (cln t)))) := (fr18 _ (by decide)).trans q40
              have q41 : w16 41 = some (kl_aI G 50 ((fun t => nI (cw t)))) := (fr18 _ (by decide)).trans q41
              have q43 : w16 43 = some (kl_aI G 12 gg) := (fr18 _ (by decide)).trans q43
              have frm : ∀ j : Nat, j ≠ 26 → j ≠ 43 → w16 j = w j := fun j k0 k1 => (fr18 j k0).trans (frm j k0 k1)
              refine lv_aload_n hx hb dX5_result_141 rfl (lv_at hl 1 rfl) ?_
              refine kl_get (C := RX5) (T := TX5) (N := 31) (ci := 5) hx hb hts hinX5 hown hK hP f17 rfl 26 (by decide) (hts (.fieldLink RX5 59 "KinLedgerModel" "pile" "[I") (by decide +kernel)) (fun _ h9 => h9) rfl dX5_result_142 ?_
              refine lv_aload_n hx hb dX5_result_145 rfl (lv_at hl 1 rfl) ?_
              refine kl_get (C := RX5) (T := TX5) (N := 31) (ci := 5) hx hb hts hinX5 hown hK hP f17 rfl 25 (by decide) (hts (.fieldLink RX5 89 "KinLedgerModel" "high" "I") (by decide +kernel)) (fun _ h9 => h9) rfl dX5_result_146 ?_
              refine lv_iconst (v := nI 1) hx hb dX5_result_149 (by decide) ?_
              refine lv_isub hx hb dX5_result_150 ?_
              refine kl_top (z := nI (h - 2)) (by first | exact pk_sub (by omega) | (rw [pk_sub (by omega)]; congr 1; omega)) ?_
              refine lv_iload hx hb dX5_result_151 (lv_at hl 0 rfl) ?_
              refine lv_aload_n hx hb dX5_result_153 rfl (lv_at hl 1 rfl) ?_
              refine kl_get (C := RX5) (T := TX5) (N := 31) (ci := 5) hx hb hts hinX5 hown hK hP f17 rfl 26 (by decide) (hts (.fieldLink RX5 59 "KinLedgerModel" "pile" "[I") (by decide +kernel)) (fun _ h9 => h9) rfl dX5_result_154 ?_
              refine lv_aload_n hx hb dX5_result_157 rfl (lv_at hl 1 rfl) ?_
              refine kl_get (C := RX5) (T := TX5) (N := 31) (ci := 5) hx hb hts hinX5 hown hK hP f17 rfl 25 (by decide) (hts (.fieldLink RX5 89 "KinLedgerModel" "high" "I") (by decide +kernel)) (fun _ h9 => h9) rfl dX5_result_158 ?_
              refine lv_iconst (v := nI 1) hx hb dX5_result_161 (by decide) ?_
              refine lv_isub hx hb dX5_result_162 ?_
              refine kl_top (z := nI (h - 2)) (by first | exact pk_sub (by omega) | (rw [pk_sub (by omega)]; congr 1; omega)) ?_
              refine kl_iald hx hb hK hP q43 (by omega) (by omega) dX5_result_163 ?_
              refine lv_aload_n hx hb dX5_result_164 rfl (lv_at hl 1 rfl) ?_
              refine kl_get (C := RX5) (T := TX5) (N := 31) (ci := 5) hx hb hts hinX5 hown hK hP f17 rfl 26 (by decide) (hts (.fieldLink RX5 59 "KinLedgerModel" "pile" "[I") (by decide +kernel)) (fun _ h9 => h9) rfl dX5_result_165 ?_
              refine lv_aload_n hx hb dX5_result_168 rfl (lv_at hl 1 rfl) ?_
              refine kl_get (C := RX5) (T := TX5) (N := 31) (ci := 5) hx hb hts hinX5 hown hK hP f17 rfl 25 (by decide) (hts (.fieldLink RX5 89 "KinLedgerModel" "high" "I") (by decide +kernel)) (fun _ h9 => h9) rfl dX5_result_169 ?_
              refine kl_iald hx hb hK hP q43 (by omega) (by omega) dX5_result_172 ?_
              refine kl_cSi (As := [.int (nI (wd u)), .int (gg (h - 2)), .int (gg (h - 1))]) (rest := [.int (nI (h - 2)), .ref (B + 43)]) ⟨hx, hb, hml, hown, hts⟩ (c_X5_reckon l G B _ (wd u) (gg (h - 2)) (gg (h - 1)) (by omega)) (va_cwS 3 hts gX5_result_X5_reckon rfl rfl rfl (by decide +kernel) ⟨Nat.le_of_ble_eq_true rfl, Nat.le_of_ble_eq_true rfl⟩) hK hP rfl hl.1 rfl (Nat.le_of_ble_eq_true rfl) dX5_result_173 ⟨Nat.le_of_ble_eq_true rfl, Nat.le_of_ble_eq_true rfl⟩ (fun r21 w19 H locs q20 hP => ?_)
              obtain ⟨rfl, rfl⟩ := q20
              refine kl_iast hx hb hK hP q43 (by omega) (by omega) dX5_result_176 (fun w22 H locs f23 fr24 hzw22 hP => ?_)
              have f17 : w22 26 = some (.inr (5, [.int ec, .int rs, .int (nI nT), .ref (B + 27), .int (nI n), .ref (B + 28), .ref (B + 29), .int (nI on), .ref (B + 30), .ref (B + 31), .ref (B + 32), .int (nI nL), .ref (B + 33), .ref (B + 34), .ref (B + 35), .ref (B + 36), .int (nI nS), .ref (B + 37), .ref (B + 38), .int (nI nC), .ref (B + 39), .ref (B + 40), .ref (B + 41), .int (nI nW), .ref (B + 42), .int (nI (h - 1)), .ref (B + 43), .int (nI nM), .ref (B + 44), .ref (B + 45), .ref (B + 46)])) := (fr24 _ (by decide)).trans f17
              have q29 : w22 29 = some (kl_aI G 96 D) := (fr24 _ (by decide)).trans q29
              have q40 : w22 40 = some (kl_aI G 5 ((fun t => nI (cln t)))) := (fr24 _ (by decide)).trans q40
              have q41 : w22 41 = some (kl_aI G 50 ((fun t => nI (cw t)))) := (fr24 _ (by decide)).trans q41
              have frm : ∀ j : Nat, j ≠ 26 → j ≠ 43 → w22 j = w j := fun j k0 k1 => (fr24 j k1).trans (frm j k0 k1)
              refine lv_iinc (v := nI (u + 1)) (lv' := [(3, .int (nI (u + 1))), (4, .int (nI (wd u))), (0, .ref (B + 26)), (1, .int (nI k)), (2, .int (nI row))]) hx hb dX5_result_177 hl (k := 4) rfl (nI_1 _) (by decide) rfl (fun ls hl => ?_)
              refine lv_goto (tgt := 7) hx hb dX5_result_180 (by decide) ?_
              exact ih7 (u + 1) (h - 1) (upd gg (h - 2) (mt_op (wd u) (gg (h - 2)) (gg (h - 1)))) (by omega) (by first | omega | grind) (by rw [hkt] at hy; exact hy.trans (congrArg some (by omega))) (by have h9 := mt_pile_step (V := (mt_op (wd u) (gg (h - 2)) (gg (h - 1)))) (mt_hh_eq hh) (by omega) hg (by unfold mt_val; rw [if_neg (by omega), if_neg c95, hkt, show h - 2 + 1 = h - 1 by omega]); rw [show h - mt_tk (wd u) = h - 2 by omega] at h9; exact fun j hj => h9 j (by omega)) _ _ _ f17 q29 q40 q41 f23 frm hP ls (lv_sub hl [2, 3, 4, 0] rfl)
            · have hkt : mt_tk (wd u) = 1 := by unfold mt_tk; rw [if_neg (by omega)]; exact if_pos c95
              refine lv_aload_n hx hb dX5_result_98 rfl (lv_at hl 1 rfl) ?_
              refine kl_get (C := RX5) (T := TX5) (N := 31) (ci := 5) hx hb hts hinX5 hown hK hP f2 rfl 26 (by decide) (hts (.fieldLink RX5 59 "KinLedgerModel" "pile" "[I") (by decide +kernel)) (fun _ h9 => h9) rfl dX5_result_99 ?_
              refine lv_aload_n hx hb dX5_result_102 rfl (lv_at hl 1 rfl) ?_
              refine kl_get (C := RX5) (T := TX5) (N := 31) (ci := 5) hx hb hts hinX5 hown hK hP f2 rfl 25 (by decide) (hts (.fieldLink RX5 89 "KinLedgerModel" "high" "I") (by decide +kernel)) (fun _ h9 => h9) rfl dX5_result_103 ?_
              refine lv_iconst (v := nI 1) hx hb dX5_result_106 (by decide) ?_
              refine lv_isub hx hb dX5_result_107 ?_
              refine kl_top (z := nI (h - 1)) (by first | exact pk_sub (by omega) | (rw [pk_sub (by omega)]; congr 1; omega)) ?_
              refine lv_aload_n hx hb dX5_result_108 rfl (lv_at hl 1 rfl) ?_
              refine kl_get (C := RX5) (T := TX5) (N := 31) (ci := 5) hx hb hts hinX5 hown hK hP f2 rfl 26 (by decide) (hts (.fieldLink RX5 59 "KinLedgerModel" "pile" "[I") (by decide +kernel)) (fun _ h9 => h9) rfl dX5_result_109 ?_
              refine lv_aload_n hx hb dX5_result_112 rfl (lv_at hl 1 rfl) ?_
              refine kl_get (C := RX5) (T := TX5) (N := 31) (ci := 5) hx hb hts hinX5 hown hK hP f2 rfl 25 (by decide) (hts (.fieldLink RX5 89 "KinLedgerModel" "high" "I") (by decide +kernel)) (fun _ h9 => h9) rfl dX5_result_113 ?_
              refine lv_iconst (v := nI 1) hx hb dX5_result_116 (by decide) ?_
              refine lv_isub hx hb dX5_result_117 ?_
              refine kl_top (z := nI (h - 1)) (by first | exact pk_sub (by omega) | (rw [pk_sub (by omega)]; congr 1; omega)) ?_
              refine kl_iald hx hb hK hP q43 (by omega) (by omega) dX5_result_118 ?_
              refine lv_if_ne (tgt := 126) hx hb dX5_result_119 (by decide) (fun c119 => ?_) (fun c119 => ?_)
              · refine lv_iconst (v := nI 0) hx hb dX5_result_126 (by decide) ?_
                refine kl_iast hx hb hK hP q43 (by omega) (by omega) dX5_result_127 (fun w25 H locs f26 fr27 hzw25 hP => ?_)
                have f2 : w25 26 = some (.inr (5, [.int ec, .int rs, .int (nI nT), .ref (B + 27), .int (nI n), .ref (B + 28), .ref (B + 29), .int (nI on), .ref (B + 30), .ref (B + 31), .ref (B + 32), .int (nI nL), .ref (B + 33), .ref (B + 34), .ref (B + 35), .ref (B + 36), .int (nI nS), .ref (B + 37), .ref (B + 38), .int (nI nC), .ref (B + 39), .ref (B + 40), .ref (B + 41), .int (nI nW), .ref (B + 42), .int (nI h), .ref (B + 43), .int (nI nM), .ref (B + 44), .ref (B + 45), .ref (B + 46)])) := (fr27 _ (by decide)).trans f2
                have q29 : w25 29 = some (kl_aI G 96 D) := (fr27 _ (by decide)).trans q29
                have q40 : w25 40 = some (kl_aI G 5 ((fun t => nI (cln t)))) := (fr27 _ (by decide)).trans q40
                have q41 : w25 41 = some (kl_aI G 50 ((fun t => nI (cw t)))) := (fr27 _ (by decide)).trans q41
                have frm : ∀ j : Nat, j ≠ 26 → j ≠ 43 → w25 j = w j := fun j k0 k1 => (fr27 j k1).trans (frm j k0 k1)
                refine lv_goto (tgt := 177) hx hb dX5_result_128 (by decide) ?_
                refine lv_iinc (v := nI (u + 1)) (lv' := [(3, .int (nI (u + 1))), (4, .int (nI (wd u))), (0, .ref (B + 26)), (1, .int (nI k)), (2, .int (nI row))]) hx hb dX5_result_177 hl (k := 4) rfl (nI_1 _) (by decide) rfl (fun ls hl => ?_)
                refine lv_goto (tgt := 7) hx hb dX5_result_180 (by decide) ?_
                exact ih7 (u + 1) h (upd gg (h - 1) (nI 0)) (by omega) (by first | omega | grind) (by rw [hkt] at hy; exact hy.trans (congrArg some (by omega))) (by have h9 := mt_pile_step (V := (nI 0)) (mt_hh_eq hh) (by omega) hg (by unfold mt_val; rw [if_neg (by omega), c95]; show _ = (if gg (h - mt_tk 17) = 0 then nI 1 else nI 0); rw [show h - mt_tk 17 = h - 1 from rfl]; exact (if_neg c119).symm); rw [show h - mt_tk (wd u) = h - 1 by omega] at h9; exact fun j hj => h9 j (by omega)) _ _ _ f2 q29 q40 q41 f26 frm hP ls (lv_sub hl [2, 3, 4, 0] rfl)
              · refine lv_iconst (v := nI 1) hx hb dX5_result_122 (by decide) ?_
                refine lv_goto (tgt := 127) hx hb dX5_result_123 (by decide) ?_
                refine kl_iast hx hb hK hP q43 (by omega) (by omega) dX5_result_127 (fun w28 H locs f29 fr30 hzw28 hP => ?_)
                have f2 : w28 26 = some (.inr (5, [.int ec, .int rs, .int (nI nT), .ref (B + 27), .int (nI n), .ref (B + 28), .ref (B + 29), .int (nI on), .ref (B + 30), .ref (B + 31), .ref (B + 32), .int (nI nL), .ref (B + 33), .ref (B + 34), .ref (B + 35), .ref (B + 36), .int (nI nS), .ref (B + 37), .ref (B + 38), .int (nI nC), .ref (B + 39), .ref (B + 40), .ref (B + 41), .int (nI nW), .ref (B + 42), .int (nI h), .ref (B + 43), .int (nI nM), .ref (B + 44), .ref (B + 45), .ref (B + 46)])) := (fr30 _ (by decide)).trans f2
                have q29 : w28 29 = some (kl_aI G 96 D) := (fr30 _ (by decide)).trans q29
                have q40 : w28 40 = some (kl_aI G 5 ((fun t => nI (cln t)))) := (fr30 _ (by decide)).trans q40
                have q41 : w28 41 = some (kl_aI G 50 ((fun t => nI (cw t)))) := (fr30 _ (by decide)).trans q41
                have frm : ∀ j : Nat, j ≠ 26 → j ≠ 43 → w28 j = w j := fun j k0 k1 => (fr30 j k1).trans (frm j k0 k1)
                refine lv_goto (tgt := 177) hx hb dX5_result_128 (by decide) ?_
                refine lv_iinc (v := nI (u + 1)) (lv' := [(3, .int (nI (u + 1))), (4, .int (nI (wd u))), (0, .ref (B + 26)), (1, .int (nI k)), (2, .int (nI row))]) hx hb dX5_result_177 hl (k := 4) rfl (nI_1 _) (by decide) rfl (fun ls hl => ?_)
                refine lv_goto (tgt := 7) hx hb dX5_result_180 (by decide) ?_
                exact ih7 (u + 1) h (upd gg (h - 1) (nI 1)) (by omega) (by first | omega | grind) (by rw [hkt] at hy; exact hy.trans (congrArg some (by omega))) (by have h9 := mt_pile_step (V := (nI 1)) (mt_hh_eq hh) (by omega) hg (by unfold mt_val; rw [if_neg (by omega), c95]; show _ = (if gg (h - mt_tk 17) = 0 then nI 1 else nI 0); rw [show h - mt_tk 17 = h - 1 from rfl]; exact (if_pos c119).symm); rw [show h - mt_tk (wd u) = h - 1 by omega] at h9; exact fun j hj => h9 j (by omega)) _ _ _ f2 q29 q40 q41 f29 frm hP ls (lv_sub hl [2, 3, 4, 0] rfl)
          · have hkt : mt_tk (wd u) = 0 := by unfold mt_tk; exact if_pos (by omega)
            refine lv_aload_n hx hb dX5_result_43 rfl (lv_at hl 1 rfl) ?_
            refine kl_get (C := RX5) (T := TX5) (N := 31) (ci := 5) hx hb hts hinX5 hown hK hP f2 rfl 26 (by decide) (hts (.fieldLink RX5 59 "KinLedgerModel" "pile" "[I") (by decide +kernel)) (fun _ h9 => h9) rfl dX5_result_44 ?_
            refine lv_aload_n hx hb dX5_result_47 rfl (lv_at hl 1 rfl) ?_
            refine kl_get (C := RX5) (T := TX5) (N := 31) (ci := 5) hx hb hts hinX5 hown hK hP f2 rfl 25 (by decide) (hts (.fieldLink RX5 89 "KinLedgerModel" "high" "I") (by decide +kernel)) (fun _ h9 => h9) rfl dX5_result_48 ?_
            refine lv_iload hx hb dX5_result_51 (lv_at hl 0 rfl) ?_
            refine lv_iconst (v := nI 4) hx hb dX5_result_53 (by decide) ?_
            refine kl_ge (tgt := 71) hx hb (by omega) (by omega) dX5_result_54 (by decide) (fun c54 => ?_) (fun c54 => ?_)
            · refine lv_iload hx hb dX5_result_71 (lv_at hl 0 rfl) ?_
              refine lv_sipush (v := nI 200) hx hb dX5_result_73 (by decide) ?_
              refine lv_isub hx hb dX5_result_76 ?_
              refine kl_iast hx hb hK hP q43 (by omega) (by omega) dX5_result_77 (fun w31 H locs f32 fr33 hzw31 hP => ?_)
              have f2 : w31 26 = some (.inr (5, [.int ec, .int rs, .int (nI nT), .ref (B + 27), .int (nI n), .ref (B + 28), .ref (B + 29), .int (nI on), .ref (B + 30), .ref (B + 31), .ref (B + 32), .int (nI nL), .ref (B + 33), .ref (B + 34), .ref (B + 35), .ref (B + 36), .int (nI nS), .ref (B + 37), .ref (B + 38), .int (nI nC), .ref (B + 39), .ref (B + 40), .ref (B + 41), .int (nI nW), .ref (B + 42), .int (nI h), .ref (B + 43), .int (nI nM), .ref (B + 44), .ref (B + 45), .ref (B + 46)])) := (fr33 _ (by decide)).trans f2
              have q29 : w31 29 = some (kl_aI G 96 D) := (fr33 _ (by decide)).trans q29
              have q40 : w31 40 = some (kl_aI G 5 ((fun t => nI (cln t)))) := (fr33 _ (by decide)).trans q40
              have q41 : w31 41 = some (kl_aI G 50 ((fun t => nI (cw t)))) := (fr33 _ (by decide)).trans q41
              have frm : ∀ j : Nat, j ≠ 26 → j ≠ 43 → w31 j = w j := fun j k0 k1 => (fr33 j k1).trans (frm j k0 k1)
              refine lv_aload_n hx hb dX5_result_78 rfl (lv_at hl 1 rfl) ?_
              refine lv_dup hx hb dX5_result_79 rfl ?_
              refine kl_get (C := RX5) (T := TX5) (N := 31) (ci := 5) hx hb hts hinX5 hown hK hP f2 rfl 25 (by decide) (hts (.fieldLink RX5 89 "KinLedgerModel" "high" "I") (by decide +kernel)) (fun _ h9 => h9) rfl dX5_result_80 ?_
              refine lv_iconst (v := nI 1) hx hb dX5_result_83 (by decide) ?_
              refine lv_iadd hx hb dX5_result_84 ?_
              refine kl_top (z := nI (h + 1)) (by first | exact nI_add _ _ | (rw [nI_add]; first | rfl | (congr 1; omega))) ?_
              refine kl_put (C := RX5) (T := TX5) (N := 31) (ci := 5) (v := .int (nI (h + 1))) (ty := .int) hx hb hts hinX5 tyX5 tyX5_ok nmX5 hown hK hP f2 rfl 25 (by decide) (hts (.fieldLink RX5 89 "KinLedgerModel" "high" "I") (by decide +kernel)) (fun _ h9 => h9) rfl (by decide +kernel) rfl rfl (Nat.le_of_ble_eq_true rfl) dX5_result_85 (fun w34 H locs f35 fr36 hzw34 hP => ?_)
              have f35 : w34 26 = some (.inr (5, [.int ec, .int rs, .int (nI nT), .ref (B + 27), .int (nI n), .ref (B + 28), .ref (B + 29), .int (nI on), .ref (B + 30), .ref (B + 31), .ref (B + 32), .int (nI nL), .ref (B + 33), .ref (B + 34), .ref (B + 35), .ref (B + 36), .int (nI nS), .ref (B + 37), .ref (B + 38), .int (nI nC), .ref (B + 39), .ref (B + 40), .ref (B + 41), .int (nI nW), .ref (B + 42), .int (nI (h + 1)), .ref (B + 43), .int (nI nM), .ref (B + 44), .ref (B + 45), .ref (B + 46)])) := f35
              have q29 : w34 29 = some (kl_aI G 96 D) := (fr36 _ (by decide)).trans q29
              have q40 : w34 40 = some (kl_aI G 5 ((fun t => nI (cln t)))) := (fr36 _ (by decide)).trans q40
              have q41 : w34 41 = some (kl_aI G 50 ((fun t => nI (cw t)))) := (fr36 _ (by decide)).trans q41
              have f32 : w34 43 = some (kl_aI G 12 (upd gg h (nI (wd u) - nI 200))) := (fr36 _ (by decide)).trans f32
              have frm : ∀ j : Nat, j ≠ 26 → j ≠ 43 → w34 j = w j := fun j k0 k1 => (fr36 j k0).trans (frm j k0 k1)
              refine lv_goto (tgt := 177) hx hb dX5_result_88 (by decide) ?_
              refine lv_iinc (v := nI (u + 1)) (lv' := [(3, .int (nI (u + 1))), (4, .int (nI (wd u))), (0, .ref (B + 26)), (1, .int (nI k)), (2, .int (nI row))]) hx hb dX5_result_177 hl (k := 4) rfl (nI_1 _) (by decide) rfl (fun ls hl => ?_)
              refine lv_goto (tgt := 7) hx hb dX5_result_180 (by decide) ?_
              exact ih7 (u + 1) (h + 1) (upd gg h (nI (wd u) - nI 200)) (by omega) (by first | omega | grind) (by rw [hkt] at hy; exact hy.trans (congrArg some (by omega))) (by have h9 := mt_pile_step (V := (nI (wd u) - nI 200)) (mt_hh_eq hh) (by omega) hg (by unfold mt_val; rw [if_pos hkt]; unfold mt_lay; exact (if_neg (by omega)).symm); rw [show h - mt_tk (wd u) = h by omega] at h9; exact fun j hj => h9 j (by omega)) _ _ _ f35 q29 q40 q41 f32 frm hP ls (lv_sub hl [2, 3, 4, 0] rfl)
            · refine lv_aload_n hx hb dX5_result_57 rfl (lv_at hl 1 rfl) ?_
              refine kl_get (C := RX5) (T := TX5) (N := 31) (ci := 5) hx hb hts hinX5 hown hK hP f2 rfl 6 (by decide) (hts (.fieldLink RX5 16 "KinLedgerModel" "cells" "[I") (by decide +kernel)) (fun _ h9 => h9) rfl dX5_result_58 ?_
              refine lv_iconst (v := nI 4) hx hb dX5_result_61 (by decide) ?_
              refine lv_iload_n hx hb dX5_result_62 rfl (lv_at hl 3 rfl) ?_
              refine lv_imul hx hb dX5_result_63 ?_
              refine kl_top (z := nI (4 * row)) (pk_mul _ _) ?_
              refine lv_iload hx hb dX5_result_64 (lv_at hl 0 rfl) ?_
              refine lv_iadd hx hb dX5_result_66 ?_
              refine kl_top (z := nI (4 * row + wd u)) (by first | exact nI_add _ _ | (rw [nI_add]; first | rfl | (congr 1; omega))) ?_
              refine kl_iald hx hb hK hP q29 (by omega) (by omega) dX5_result_67 ?_
              refine lv_goto (tgt := 77) hx hb dX5_result_68 (by decide) ?_
              refine kl_iast hx hb hK hP q43 (by omega) (by omega) dX5_result_77 (fun w37 H locs f38 fr39 hzw37 hP => ?_)
              have f2 : w37 26 = some (.inr (5, [.int ec, .int rs, .int (nI nT), .ref (B + 27), .int (nI n), .ref (B + 28), .ref (B + 29), .int (nI on), .ref (B + 30), .ref (B + 31), .ref (B + 32), .int (nI nL), .ref (B + 33), .ref (B + 34), .ref (B + 35), .ref (B + 36), .int (nI nS), .ref (B + 37), .ref (B + 38), .int (nI nC), .ref (B + 39), .ref (B + 40), .ref (B + 41), .int (nI nW), .ref (B + 42), .int (nI h), .ref (B + 43), .int (nI nM), .ref (B + 44), .ref (B + 45), .ref (B + 46)])) := (fr39 _ (by decide)).trans f2
              have q29 : w37 29 = some (kl_aI G 96 D) := (fr39 _ (by decide)).trans q29
              have q40 : w37 40 = some (kl_aI G 5 ((fun t => nI (cln t)))) := (fr39 _ (by decide)).trans q40
              have q41 : w37 41 = some (kl_aI G 50 ((fun t => nI (cw t)))) := (fr39 _ (by decide)).trans q41
              have frm : ∀ j : Nat, j ≠ 26 → j ≠ 43 → w37 j = w j := fun j k0 k1 => (fr39 j k1).trans (frm j k0 k1)
              refine lv_aload_n hx hb dX5_result_78 rfl (lv_at hl 1 rfl) ?_
              refine lv_dup hx hb dX5_result_79 rfl ?_
              refine kl_get (C := RX5) (T := TX5) (N := 31) (ci := 5) hx hb hts hinX5 hown hK hP f2 rfl 25 (by decide) (hts (.fieldLink RX5 89 "KinLedgerModel" "high" "I") (by decide +kernel)) (fun _ h9 => h9) rfl dX5_result_80 ?_
              refine lv_iconst (v := nI 1) hx hb dX5_result_83 (by decide) ?_
              refine lv_iadd hx hb dX5_result_84 ?_
              refine kl_top (z := nI (h + 1)) (by first | exact nI_add _ _ | (rw [nI_add]; first | rfl | (congr 1; omega))) ?_
              refine kl_put (C := RX5) (T := TX5) (N := 31) (ci := 5) (v := .int (nI (h + 1))) (ty := .int) hx hb hts hinX5 tyX5 tyX5_ok nmX5 hown hK hP f2 rfl 25 (by decide) (hts (.fieldLink RX5 89 "KinLedgerModel" "high" "I") (by decide +kernel)) (fun _ h9 => h9) rfl (by decide +kernel) rfl rfl (Nat.le_of_ble_eq_true rfl) dX5_result_85 (fun w40 H locs f41 fr42 hzw40 hP => ?_)
              have f41 : w40 26 = some (.inr (5, [.int ec, .int rs, .int (nI nT), .ref (B + 27), .int (nI n), .ref (B + 28), .ref (B + 29), .int (nI on), .ref (B + 30), .ref (B + 31), .ref (B + 32), .int (nI nL), .ref (B + 33), .ref (B + 34), .ref (B + 35), .ref (B + 36), .int (nI nS), .ref (B + 37), .ref (B + 38), .int (nI nC), .ref (B + 39), .ref (B + 40), .ref (B + 41), .int (nI nW), .ref (B + 42), .int (nI (h + 1)), .ref (B + 43), .int (nI nM), .ref (B + 44), .ref (B + 45), .ref (B + 46)])) := f41
              have q29 : w40 29 = some (kl_aI G 96 D) := (fr42 _ (by decide)).trans q29
              have q40 : w40 40 = some (kl_aI G 5 ((fun t => nI (cln t)))) := (fr42 _ (by decide)).trans q40
              have q41 : w40 41 = some (kl_aI G 50 ((fun t => nI (cw t)))) := (fr42 _ (by decide)).trans q41
              have f38 : w40 43 = some (kl_aI G 12 (upd gg h (D (4 * row + wd u)))) := (fr42 _ (by decide)).trans f38
              have frm : ∀ j : Nat, j ≠ 26 → j ≠ 43 → w40 j = w j := fun j k0 k1 => (fr42 j k0).trans (frm j k0 k1)
              refine lv_goto (tgt := 177) hx hb dX5_result_88 (by decide) ?_
              refine lv_iinc (v := nI (u + 1)) (lv' := [(3, .int (nI (u + 1))), (4, .int (nI (wd u))), (0, .ref (B + 26)), (1, .int (nI k)), (2, .int (nI row))]) hx hb dX5_result_177 hl (k := 4) rfl (nI_1 _) (by decide) rfl (fun ls hl => ?_)
              refine lv_goto (tgt := 7) hx hb dX5_result_180 (by decide) ?_
              exact ih7 (u + 1) (h + 1) (upd gg h (D (4 * row + wd u))) (by omega) (by first | omega | grind) (by rw [hkt] at hy; exact hy.trans (congrArg some (by omega))) (by have h9 := mt_pile_step (V := (D (4 * row + wd u))) (mt_hh_eq hh) (by omega) hg (by unfold mt_val; rw [if_pos hkt]; unfold mt_lay; exact (if_pos (by omega)).symm); rw [show h - mt_tk (wd u) = h by omega] at h9; exact fun j hj => h9 j (by omega)) _ _ _ f41 q29 q40 q41 f38 frm hP ls (lv_sub hl [2, 3, 4, 0] rfl)
  exact lp7 ((cln k) + 1) 0 0 pl (Nat.lt_succ_of_le (by omega)) (by first | omega | grind) rfl (fun j hj => absurd hj (Nat.not_lt_zero j)) _ _ _ f2 q29 q40 q41 q43 frm hP ls (lv_sub hl [1, 2, 3, 0] rfl)

abbrev rm_X5_breaksCheck : Room := { frames := 2, cells := 0, slots := 0, locals := 46 }
set_option maxHeartbeats 4000000 in
set_option maxRecDepth 100000 in
theorem c_X5_breaksCheck (l : Launch) (G : kl_G) (B : Nat) (w : kl_M) {nT nL nS nC nW nM n on : Nat} {ec rs hi : Int32} {O D ctb : Nat → Int32} {cln cw : Nat → Nat} {pl : Nat → Int32} (cols : Nat) (wd : Nat → Nat) (k : Nat) (q26 : w 26 = some (.inr (5, [.int ec, .int rs, .int (nI nT), .ref (B + 27), .int (nI n), .ref (B + 28), .ref (B + 29), .int (nI on), .ref (B + 30), .ref (B + 31), .ref (B + 32), .int (nI nL), .ref (B + 33), .ref (B + 34), .ref (B + 35), .ref (B + 36), .int (nI nS), .ref (B + 37), .ref (B + 38), .int (nI nC), .ref (B + 39), .ref (B + 40), .ref (B + 41), .int (nI nW), .ref (B + 42), .int hi, .ref (B + 43), .int (nI nM), .ref (B + 44), .ref (B + 45), .ref (B + 46)]))) (q28 : w 28 = some (kl_aI G 24 O)) (q29 : w 29 = some (kl_aI G 96 D)) (q39 : w 39 = some (kl_aI G 5 ctb)) (q40 : w 40 = some (kl_aI G 5 ((fun t => nI (cln t))))) (q41 : w 41 = some (kl_aI G 50 ((fun t => nI (cw t))))) (q43 : w 43 = some (kl_aI G 12 pl)) (hn : n ≤ 24) (hk : k < 5) (hwd : ∀ i, wd i = cw (10 * k + i)) (hrt : mt_right wd cols (cln k)) (hc4 : cols ≤ 4) (hw : ∀ j, j < cln k → mt_wok (wd j)) (hl10 : cln k ≤ 10) (htb : ctb k ≠ -1) : Met l yX5_breaksCheck wsX5_breaksCheck rm_X5_breaksCheck (kl_Pc G B w [.ref (B + 26), .int (nI k)]) (kl_Qi G B (fun r w1 => kl_b r (mt_cbrk (md_T n O) D (ctb k) wd (cln k)) ∧ (∃ h2, w1 26 = some (.inr (5, [.int ec, .int rs, .int (nI nT), .ref (B + 27), .int (nI n), .ref (B + 28), .ref (B + 29), .int (nI on), .ref (B + 30), .ref (B + 31), .ref (B + 32), .int (nI nL), .ref (B + 33), .ref (B + 34), .ref (B + 35), .ref (B + 36), .int (nI nS), .ref (B + 37), .ref (B + 38), .int (nI nC), .ref (B + 39), .ref (B + 40), .ref (B + 41), .int (nI nW), .ref (B + 42), .int h2, .ref (B + 43), .int (nI nM), .ref (B + 44), .ref (B + 45), .ref (B + 46)]))) ∧ (∃ pl2, w1 43 = some (kl_aI G 12 pl2)) ∧ ∀ j : Nat, j ≠ 26 → j ≠ 43 → w1 j = w j)) 0 0 (kl_fr B) := by
  refine Met.ofW (cc := cX5_breaksCheck) (maxL := 4) (ret := (some .boolean)) (by decide) rfl ?_
  intro pg e s m args below meth cd s₁ Bd hml hv
  obtain ⟨rfl, hP0, hK⟩ := hv
  have hx := Bd.exec
  have hb := Bd.bytes
  have hr := Bd.returns
  have hts := atoms_spec (ws := wsX5_breaksCheck) Bd.pre
  have hown : s.vm.findClass RX5 = some m.cls := findClass_of_methodNamed Bd.named
  have hlocks := Bd.notSynchronized
  have hinX5 : ∀ w ∈ u_ws RX5 TX5 31, w ∈ wsX5_breaksCheck := by decide +kernel
  have hP := kl_S.rf hP0
  have hl := lv_entry ([.ref (B + 26), .int (nI k)]) (n := 4) (Nat.le_of_ble_eq_true rfl)
  rw [lg_entry_eq]
  generalize (lg_sl ([.ref (B + 26), .int (nI k)]) ++ List.replicate (4 - (lg_sl ([.ref (B + 26), .int (nI k)])).length) Slot.unset).toArray = ls at hl ⊢
  have hl : lv_has ls 4 [(0, .ref (B + 26)), (1, .int (nI k))] := hl
  have frm : ∀ j : Nat, j ≠ 26 → j ≠ 43 → w j = w j := fun j _ _ => rfl
  refine lv_iconst (v := nI 0) hx hb dX5_breaksCheck_0 (by decide) ?_
  refine lv_istore_n (lv' := [(2, .int (nI 0)), (0, .ref (B + 26)), (1, .int (nI k))]) hx hb dX5_breaksCheck_1 rfl hl (by decide) rfl (fun ls hl => ?_)
  refine lv_iconst (v := nI 0) hx hb dX5_breaksCheck_2 (by decide) ?_
  refine lv_istore_n (lv' := [(3, .int (nI 0)), (2, .int (nI 0)), (0, .ref (B + 26)), (1, .int (nI k))]) hx hb dX5_breaksCheck_3 rfl hl (by decide) rfl (fun ls hl => ?_)
  have lp4 : ∀ (n4 : Nat) (p : Nat) (bv : Int32) (h1 : Int32) (gg : Nat → Int32), n - p < n4 → (p ≤ n) → (kl_b bv (∃ q, q < p ∧ O q = ctb k ∧ mt_ev wd (cln k) (fun j => D (4 * q + j)) = 0)) → ∀ (w1 : kl_M) (H : Heap) (locs : List Loc), w1 26 = some (.inr (5, [.int ec, .int rs, .int (nI nT), .ref (B + 27), .int (nI n), .ref (B + 28), .ref (B + 29), .int (nI on), .ref (B + 30), .ref (B + 31), .ref (B + 32), .int (nI nL), .ref (B + 33), .ref (B + 34), .ref (B + 35), .ref (B + 36), .int (nI nS), .ref (B + 37), .ref (B + 38), .int (nI nC), .ref (B + 39), .ref (B + 40), .ref (B + 41), .int (nI nW), .ref (B + 42), .int h1, .ref (B + 43), .int (nI nM), .ref (B + 44), .ref (B + 45), .ref (B + 46)])) → w1 28 = some (kl_aI G 24 O) → w1 29 = some (kl_aI G 96 D) → w1 39 = some (kl_aI G 5 ctb) → w1 40 = some (kl_aI G 5 ((fun t => nI (cln t)))) → w1 41 = some (kl_aI G 50 ((fun t => nI (cw t)))) → w1 43 = some (kl_aI G 12 gg) → (∀ j : Nat, j ≠ 26 → j ≠ 43 → w1 j = w j) → kl_S G B w1 s.heap H locs → ∀ ls : Array Slot, lv_has ls 4 [(0, .ref (B + 26)), (1, .int (nI k)), (2, .int bv), (3, .int (nI p))] → W pg l e rm_X5_breaksCheck s m ([.ref (B + 26), .int (nI k)] : List Value).toArray below meth cd H locs (0) (0) (MQ below (kl_Qi G B (fun r w1 => kl_b r (mt_cbrk (md_T n O) D (ctb k) wd (cln k)) ∧ (∃ h2, w1 26 = some (.inr (5, [.int ec, .int rs, .int (nI nT), .ref (B + 27), .int (nI n), .ref (B + 28), .ref (B + 29), .int (nI on), .ref (B + 30), .ref (B + 31), .ref (B + 32), .int (nI nL), .ref (B + 33), .ref (B + 34), .ref (B + 35), .ref (B + 36), .int (nI nS), .ref (B + 37), .ref (B + 38), .int (nI nC), .ref (B + 39), .ref (B + 40), .ref (B + 41), .int (nI nW), .ref (B + 42), .int h2, .ref (B + 43), .int (nI nM), .ref (B + 44), .ref (B + 45), .ref (B + 46)]))) ∧ (∃ pl2, w1 43 = some (kl_aI G 12 pl2)) ∧ ∀ j : Nat, j ≠ 26 → j ≠ 43 → w1 j = w j)) ([.ref (B + 26), .int (nI k)] : List Value).toArray s 0 0 (kl_fr B)) (F0 m 4 ls []) := by
    intro n4
    induction n4 with
    | zero => intro p bv h1 gg hm; exact absurd hm (Nat.not_lt_zero _)
    | succ n4 ih4 =>
      intro p bv h1 gg hm hp hbb w1 H locs q26 q28 q29 q39 q40 q41 q43 frm hP ls hl
      refine lv_iload_n hx hb dX5_breaksCheck_4 rfl (lv_at hl 3 rfl) ?_
      refine lv_aload_n hx hb dX5_breaksCheck_5 rfl (lv_at hl 0 rfl) ?_
      refine kl_get (C := RX5) (T := TX5) (N := 31) (ci := 5) hx hb hts hinX5 hown hK hP q26 rfl 4 (by decide) (hts (.fieldLink RX5 82 "KinLedgerModel" "rows" "I") (by decide +kernel)) (fun _ h9 => h9) rfl dX5_breaksCheck_6 ?_
      refine kl_ge (tgt := 52) hx hb (by omega) (by omega) dX5_breaksCheck_9 (by decide) (fun c9 => ?_) (fun c9 => ?_)
      · refine lv_iload_n hx hb dX5_breaksCheck_52 rfl (lv_at hl 2 rfl) ?_
        exact kl_zret hx hb hr hlocks hbb.nar hP ⟨hbb.iff ⟨fun ⟨q, z1, z2, z3⟩ => ⟨q, by omega, by rw [md_lt (by omega)]; exact z2, z3⟩, fun ⟨q, z1, z2, z3⟩ => by obtain ⟨y1, y2⟩ := md_ne htb z2; exact ⟨q, by omega, y2, z3⟩⟩, ⟨_, q26⟩, ⟨_, q43⟩, frm⟩ dX5_breaksCheck_53
      · refine lv_iload_n hx hb dX5_breaksCheck_12 rfl (lv_at hl 2 rfl) ?_
        refine kl_ifne (tgt := 40) hx hb hbb dX5_breaksCheck_13 (by decide) (fun c13 => ?_) (fun c13 => ?_)
        · refine lv_iconst (v := nI 1) hx hb dX5_breaksCheck_40 (by decide) ?_
          refine lv_goto (tgt := 45) hx hb dX5_breaksCheck_41 (by decide) ?_
          refine lv_istore_n (lv' := [(2, .int (nI 1)), (0, .ref (B + 26)), (1, .int (nI k)), (3, .int (nI p))]) hx hb dX5_breaksCheck_45 rfl hl (by decide) rfl (fun ls hl => ?_)
          refine lv_iinc (v := nI (p + 1)) (lv' := [(3, .int (nI (p + 1))), (2, .int (nI 1)), (0, .ref (B + 26)), (1, .int (nI k))]) hx hb dX5_breaksCheck_46 hl (k := 3) rfl (nI_1 _) (by decide) rfl (fun ls hl => ?_)
          refine lv_goto (tgt := 4) hx hb dX5_breaksCheck_49 (by decide) ?_
          exact ih4 (p + 1) (nI 1) h1 gg (by omega) (by first | omega | grind) (kl_b.t (by obtain ⟨q, h1, h2⟩ := c13; exact ⟨q, by omega, h2⟩)) _ _ _ q26 q28 q29 q39 q40 q41 q43 frm hP ls (lv_sub hl [2, 3, 1, 0] rfl)
        · refine lv_aload_n hx hb dX5_breaksCheck_16 rfl (lv_at hl 0 rfl) ?_
          refine kl_get (C := RX5) (T := TX5) (N := 31) (ci := 5) hx hb hts hinX5 hown hK hP q26 rfl 5 (by decide) (hts (.fieldLink RX5 13 "KinLedgerModel" "of" "[I") (by decide +kernel)) (fun _ h9 => h9) rfl dX5_breaksCheck_17 ?_
          refine lv_iload_n hx hb dX5_breaksCheck_20 rfl (lv_at hl 3 rfl) ?_
          refine kl_iald hx hb hK hP q28 (by omega) (by omega) dX5_breaksCheck_21 ?_
          refine lv_aload_n hx hb dX5_breaksCheck_22 rfl (lv_at hl 0 rfl) ?_
          refine kl_get (C := RX5) (T := TX5) (N := 31) (ci := 5) hx hb hts hinX5 hown hK hP q26 rfl 20 (by decide) (hts (.fieldLink RX5 47 "KinLedgerModel" "checkTable" "[I") (by decide +kernel)) (fun _ h9 => h9) rfl dX5_breaksCheck_23 ?_
          refine lv_iload_n hx hb dX5_breaksCheck_26 rfl (lv_at hl 1 rfl) ?_
          refine kl_iald hx hb hK hP q39 (by omega) (by omega) dX5_breaksCheck_27 ?_
          refine lv_icmp_ne (tgt := 44) hx hb dX5_breaksCheck_28 (by decide) (fun c28 => ?_) (fun c28 => ?_)
          · refine lv_iconst (v := nI 0) hx hb dX5_breaksCheck_44 (by decide) ?_
            refine lv_istore_n (lv' := [(2, .int (nI 0)), (0, .ref (B + 26)), (1, .int (nI k)), (3, .int (nI p))]) hx hb dX5_breaksCheck_45 rfl hl (by decide) rfl (fun ls hl => ?_)
            refine lv_iinc (v := nI (p + 1)) (lv' := [(3, .int (nI (p + 1))), (2, .int (nI 0)), (0, .ref (B + 26)), (1, .int (nI k))]) hx hb dX5_breaksCheck_46 hl (k := 3) rfl (nI_1 _) (by decide) rfl (fun ls hl => ?_)
            refine lv_goto (tgt := 4) hx hb dX5_breaksCheck_49 (by decide) ?_
            exact ih4 (p + 1) (nI 0) h1 gg (by omega) (by first | omega | grind) (kl_b.f (fun ⟨q, h1, h2, h3⟩ => by rcases Nat.lt_or_ge q p with h | h; exact c13 ⟨q, h, h2, h3⟩; obtain rfl : q = p := (by omega); exact c28 h2)) _ _ _ q26 q28 q29 q39 q40 q41 q43 frm hP ls (lv_sub hl [2, 3, 1, 0] rfl)
          · refine lv_aload_n hx hb dX5_breaksCheck_31 rfl (lv_at hl 0 rfl) ?_
            refine lv_iload_n hx hb dX5_breaksCheck_32 rfl (lv_at hl 1 rfl) ?_
            refine lv_iload_n hx hb dX5_breaksCheck_33 rfl (lv_at hl 3 rfl) ?_
            refine kl_cVi (C := RX5) (i := 26) (As := [.int (nI k), .int (nI p)]) (rest := []) ⟨hx, hb, hml, hown, hts⟩ (c_X5_result l G B _ cols wd k p q26 q29 q40 q41 q43 (by omega) (by omega) hwd hrt hc4 hw hl10) (cwV 2 hts gX5_breaksCheck_X5_result rfl rfl rfl (by decide +kernel) ⟨Nat.le_of_ble_eq_true rfl, Nat.le_of_ble_eq_true rfl⟩) hK hP q26 rfl rfl hl.1 rfl (Nat.le_of_ble_eq_true rfl) dX5_breaksCheck_34 ⟨Nat.le_of_ble_eq_true rfl, Nat.le_of_ble_eq_true rfl⟩ (fun r3 w1 H locs q2 hP => ?_)
            obtain ⟨rfl, ⟨hi4, f5⟩, ⟨pl6, f7⟩, fr8⟩ := q2
            have q28 : w1 28 = some (kl_aI G 24 O) := (fr8 _ (by decide) (by decide)).trans q28
            have q29 : w1 29 = some (kl_aI G 96 D) := (fr8 _ (by decide) (by decide)).trans q29
            have q39 : w1 39 = some (kl_aI G 5 ctb) := (fr8 _ (by decide) (by decide)).trans q39
            have q40 : w1 40 = some (kl_aI G 5 ((fun t => nI (cln t)))) := (fr8 _ (by decide) (by decide)).trans q40
            have q41 : w1 41 = some (kl_aI G 50 ((fun t => nI (cw t)))) := (fr8 _ (by decide) (by decide)).trans q41
            have f5 : w1 26 = some (.inr (5, [.int ec, .int rs, .int (nI nT), .ref (B + 27), .int (nI n), .ref (B + 28), .ref (B + 29), .int (nI on), .ref (B + 30), .ref (B + 31), .ref (B + 32), .int (nI nL), .ref (B + 33), .ref (B + 34), .ref (B + 35), .ref (B + 36), .int (nI nS), .ref (B + 37), .ref (B + 38), .int (nI nC), .ref (B + 39), .ref (B + 40), .ref (B + 41), .int (nI nW), .ref (B + 42), .int hi4, .ref (B + 43), .int (nI nM), .ref (B + 44), .ref (B + 45), .ref (B + 46)])) := f5
            have f7 : w1 43 = some (kl_aI G 12 pl6) := f7
            have frm : ∀ j : Nat, j ≠ 26 → j ≠ 43 → w1 j = w j := fun j k0 k1 => (fr8 j k0 k1).trans (frm j k0 k1)
            refine lv_if_ne (tgt := 44) hx hb dX5_breaksCheck_37 (by decide) (fun c37 => ?_) (fun c37 => ?_)
            · refine lv_iconst (v := nI 0) hx hb dX5_breaksCheck_44 (by decide) ?_
              refine lv_istore_n (lv' := [(2, .int (nI 0)), (0, .ref (B + 26)), (1, .int (nI k)), (3, .int (nI p))]) hx hb dX5_breaksCheck_45 rfl hl (by decide) rfl (fun ls hl => ?_)
              refine lv_iinc (v := nI (p + 1)) (lv' := [(3, .int (nI (p + 1))), (2, .int (nI 0)), (0, .ref (B + 26)), (1, .int (nI k))]) hx hb dX5_breaksCheck_46 hl (k := 3) rfl (nI_1 _) (by decide) rfl (fun ls hl => ?_)
              refine lv_goto (tgt := 4) hx hb dX5_breaksCheck_49 (by decide) ?_
              exact ih4 (p + 1) (nI 0) hi4 pl6 (by omega) (by first | omega | grind) (kl_b.f (fun ⟨q, h1, h2, h3⟩ => by rcases Nat.lt_or_ge q p with h | h; exact c13 ⟨q, h, h2, h3⟩; obtain rfl : q = p := (by omega); exact c37 h3)) _ _ _ f5 q28 q29 q39 q40 q41 f7 frm hP ls (lv_sub hl [2, 3, 1, 0] rfl)
            · refine lv_iconst (v := nI 1) hx hb dX5_breaksCheck_40 (by decide) ?_
              refine lv_goto (tgt := 45) hx hb dX5_breaksCheck_41 (by decide) ?_
              refine lv_istore_n (lv' := [(2, .int (nI 1)), (0, .ref (B + 26)), (1, .int (nI k)), (3, .int (nI p))]) hx hb dX5_breaksCheck_45 rfl hl (by decide) rfl (fun ls hl => ?_)
              refine lv_iinc (v := nI (p + 1)) (lv' := [(3, .int (nI (p + 1))), (2, .int (nI 1)), (0, .ref (B + 26)), (1, .int (nI k))]) hx hb dX5_breaksCheck_46 hl (k := 3) rfl (nI_1 _) (by decide) rfl (fun ls hl => ?_)
              refine lv_goto (tgt := 4) hx hb dX5_breaksCheck_49 (by decide) ?_
              exact ih4 (p + 1) (nI 1) hi4 pl6 (by omega) (by first | omega | grind) (kl_b.t ⟨p, Nat.lt_succ_self _, c28, c37⟩) _ _ _ f5 q28 q29 q39 q40 q41 f7 frm hP ls (lv_sub hl [2, 3, 1, 0] rfl)
  exact lp4 (n + 1) 0 (nI 0) hi pl (Nat.lt_succ_of_le (by omega)) (by first | omega | grind) (kl_b.f (fun ⟨q, hq, _⟩ => absurd hq (Nat.not_lt_zero q))) _ _ _ q26 q28 q29 q39 q40 q41 q43 frm hP ls (lv_sub hl [2, 3, 1, 0] rfl)

abbrev rm_X5_wrong : Room := { frames := 3, cells := 0, slots := 0, locals := 69 }
set_option maxHeartbeats 4000000 in
set_option maxRecDepth 100000 in
theorem c_X5_wrong (l : Launch) (G : kl_G) (B : Nat) (w : kl_M) {nT nL nS nC nW nM n on : Nat} {ec rs hi : Int32} {O D pl : Nat → Int32} {lch : Nat → Int32} {lco : Nat → Nat} {lpa lwy stb : Nat → Int32} {sco : Nat → Nat} {ctb : Nat → Int32} {cln cw : Nat → Nat} (ccol : Nat → Nat) (q26 : w 26 = some (.inr (5, [.int ec, .int rs, .int (nI nT), .ref (B + 27), .int (nI n), .ref (B + 28), .ref (B + 29), .int (nI on), .ref (B + 30), .ref (B + 31), .ref (B + 32), .int (nI nL), .ref (B + 33), .ref (B + 34), .ref (B + 35), .ref (B + 36), .int (nI nS), .ref (B + 37), .ref (B + 38), .int (nI nC), .ref (B + 39), .ref (B + 40), .ref (B + 41), .int (nI nW), .ref (B + 42), .int hi, .ref (B + 43), .int (nI nM), .ref (B + 44), .ref (B + 45), .ref (B + 46)]))) (q28 : w 28 = some (kl_aI G 24 O)) (q29 : w 29 = some (kl_aI G 96 D)) (q33 : w 33 = some (kl_aI G 7 lch)) (q34 : w 34 = some (kl_aI G 7 ((fun t => nI (lco t))))) (q35 : w 35 = some (kl_aI G 7 lpa)) (q36 : w 36 = some (kl_aI G 7 lwy)) (q37 : w 37 = some (kl_aI G 5 stb)) (q38 : w 38 = some (kl_aI G 5 ((fun t => nI (sco t))))) (q39 : w 39 = some (kl_aI G 5 ctb)) (q40 : w 40 = some (kl_aI G 5 ((fun t => nI (cln t))))) (q41 : w 41 = some (kl_aI G 50 ((fun t => nI (cw t))))) (q43 : w 43 = some (kl_aI G 12 pl)) (hmn : nT ≤ 4 ∧ nL ≤ 6 ∧ nS ≤ 4 ∧ nC ≤ 4 ∧ n ≤ 24) (hrp : (md_RP nL lch lco lpa lwy nS stb sco nC ctb cln cw ccol)) : Met l yX5_wrong wsX5_wrong rm_X5_wrong (kl_Pc G B w [.ref (B + 26)]) (kl_Qi G B (fun r w1 => mt_why (md_T n O) D nT nS stb sco nL lch lco lpa nC ctb (fun j i => cw (10 * j + i)) cln r ∧ (∃ h2, w1 26 = some (.inr (5, [.int ec, .int rs, .int (nI nT), .ref (B + 27), .int (nI n), .ref (B + 28), .ref (B + 29), .int (nI on), .ref (B + 30), .ref (B + 31), .ref (B + 32), .int (nI nL), .ref (B + 33), .ref (B + 34), .ref (B + 35), .ref (B + 36), .int (nI nS), .ref (B + 37), .ref (B + 38), .int (nI nC), .ref (B + 39), .ref (B + 40), .ref (B + 41), .int (nI nW), .ref (B + 42), .int h2, .ref (B + 43), .int (nI nM), .ref (B + 44), .ref (B + 45), .ref (B + 46)]))) ∧ (∃ pl2, w1 43 = some (kl_aI G 12 pl2)) ∧ ∀ j : Nat, j ≠ 26 → j ≠ 43 → w1 j = w j)) 0 0 (kl_fr B) := by
  refine Met.ofW (cc := cX5_wrong) (maxL := 2) (ret := (some .int)) (by decide) rfl ?_
  intro pg e s m args below meth cd s₁ Bd hml hv
  obtain ⟨rfl, hP0, hK⟩ := hv
  have hx := Bd.exec
  have hb := Bd.bytes
  have hr := Bd.returns
  have hts := atoms_spec (ws := wsX5_wrong) Bd.pre
  have hown : s.vm.findClass RX5 = some m.cls := findClass_of_methodNamed Bd.named
  have hlocks := Bd.notSynchronized
  have hinX5 : ∀ w ∈ u_ws RX5 TX5 31, w ∈ wsX5_wrong := by decide +kernel
  have hP := kl_S.rf hP0
  have hl := lv_entry ([.ref (B + 26)]) (n := 2) (Nat.le_of_ble_eq_true rfl)
  rw [lg_entry_eq]
  generalize (lg_sl ([.ref (B + 26)]) ++ List.replicate (2 - (lg_sl ([.ref (B + 26)])).length) Slot.unset).toArray = ls at hl ⊢
  have hl : lv_has ls 2 [(0, .ref (B + 26))] := hl
  have frm : ∀ j : Nat, j ≠ 26 → j ≠ 43 → w j = w j := fun j _ _ => rfl
  obtain ⟨m1, m2, m3, m4, m5⟩ := hmn
  refine lv_iconst (v := nI 0) hx hb dX5_wrong_0 (by decide) ?_
  refine lv_istore_n (lv' := [(1, .int (nI 0)), (0, .ref (B + 26))]) hx hb dX5_wrong_1 rfl hl (by decide) rfl (fun ls hl => ?_)
  have lp2 : ∀ (n2 : Nat) (x : Nat) (h1 : Int32) (gg : Nat → Int32), nT - x < n2 → (x ≤ nT) → (∀ j, j < x → ¬ mt_twin (md_T n O) D (nI j) 0) → ∀ (w1 : kl_M) (H : Heap) (locs : List Loc), w1 26 = some (.inr (5, [.int ec, .int rs, .int (nI nT), .ref (B + 27), .int (nI n), .ref (B + 28), .ref (B + 29), .int (nI on), .ref (B + 30), .ref (B + 31), .ref (B + 32), .int (nI nL), .ref (B + 33), .ref (B + 34), .ref (B + 35), .ref (B + 36), .int (nI nS), .ref (B + 37), .ref (B + 38), .int (nI nC), .ref (B + 39), .ref (B + 40), .ref (B + 41), .int (nI nW), .ref (B + 42), .int h1, .ref (B + 43), .int (nI nM), .ref (B + 44), .ref (B + 45), .ref (B + 46)])) → w1 28 = some (kl_aI G 24 O) → w1 29 = some (kl_aI G 96 D) → w1 33 = some (kl_aI G 7 lch) → w1 34 = some (kl_aI G 7 ((fun t => nI (lco t)))) → w1 35 = some (kl_aI G 7 lpa) → w1 36 = some (kl_aI G 7 lwy) → w1 37 = some (kl_aI G 5 stb) → w1 38 = some (kl_aI G 5 ((fun t => nI (sco t)))) → w1 39 = some (kl_aI G 5 ctb) → w1 40 = some (kl_aI G 5 ((fun t => nI (cln t)))) → w1 41 = some (kl_aI G 50 ((fun t => nI (cw t)))) → w1 43 = some (kl_aI G 12 gg) → (∀ j : Nat, j ≠ 26 → j ≠ 43 → w1 j = w j) → kl_S G B w1 s.heap H locs → ∀ ls : Array Slot, lv_has ls 2 [(0, .ref (B + 26)), (1, .int (nI x))] → W pg l e rm_X5_wrong s m ([.ref (B + 26)] : List Value).toArray below meth cd H locs (0) (0) (MQ below (kl_Qi G B (fun r w1 => mt_why (md_T n O) D nT nS stb sco nL lch lco lpa nC ctb (fun j i => cw (10 * j + i)) cln r ∧ (∃ h2, w1 26 = some (.inr (5, [.int ec, .int rs, .int (nI nT), .ref (B + 27), .int (nI n), .ref (B + 28), .ref (B + 29), .int (nI on), .ref (B + 30), .ref (B + 31), .ref (B + 32), .int (nI nL), .ref (B + 33), .ref (B + 34), .ref (B + 35), .ref (B + 36), .int (nI nS), .ref (B + 37), .ref (B + 38), .int (nI nC), .ref (B + 39), .ref (B + 40), .ref (B + 41), .int (nI nW), .ref (B + 42), .int h2, .ref (B + 43), .int (nI nM), .ref (B + 44), .ref (B + 45), .ref (B + 46)]))) ∧ (∃ pl2, w1 43 = some (kl_aI G 12 pl2)) ∧ ∀ j : Nat, j ≠ 26 → j ≠ 43 → w1 j = w j)) ([.ref (B + 26)] : List Value).toArray s 0 0 (kl_fr B)) (F0 m 2 ls []) := by
    intro n2
    induction n2 with
    | zero => intro x h1 gg hm; exact absurd hm (Nat.not_lt_zero _)
    | succ n2 ih2 =>
      intro x h1 gg hm hx9 hna w1 H locs q26 q28 q29 q33 q34 q35 q36 q37 q38 q39 q40 q41 q43 frm hP ls hl
      refine lv_iload_n hx hb dX5_wrong_2 rfl (lv_at hl 1 rfl) ?_
      refine lv_aload_n hx hb dX5_wrong_3 rfl (lv_at hl 0 rfl) ?_
      refine kl_get (C := RX5) (T := TX5) (N := 31) (ci := 5) hx hb hts hinX5 hown hK hP q26 rfl 2 (by decide) (hts (.fieldLink RX5 75 "KinLedgerModel" "tables" "I") (by decide +kernel)) (fun _ h9 => h9) rfl dX5_wrong_4 ?_
      refine kl_ge (tgt := 31) hx hb (by omega) (by omega) dX5_wrong_7 (by decide) (fun c7 => ?_) (fun c7 => ?_)
      · refine lv_iconst (v := nI 0) hx hb dX5_wrong_31 (by decide) ?_
        refine lv_istore_n (lv' := [(1, .int (nI 0)), (0, .ref (B + 26))]) hx hb dX5_wrong_32 rfl hl (by decide) rfl (fun ls hl => ?_)
        have lp33 : ∀ (n33 : Nat) (x : Nat) (h1 : Int32) (gg : Nat → Int32), nS - x < n33 → (x ≤ nS) → (∀ j, j < x → ¬ mt_twin (md_T n O) D (stb j) (sco j)) → ∀ (w1 : kl_M) (H : Heap) (locs : List Loc), w1 26 = some (.inr (5, [.int ec, .int rs, .int (nI nT), .ref (B + 27), .int (nI n), .ref (B + 28), .ref (B + 29), .int (nI on), .ref (B + 30), .ref (B + 31), .ref (B + 32), .int (nI nL), .ref (B + 33), .ref (B + 34), .ref (B + 35), .ref (B + 36), .int (nI nS), .ref (B + 37), .ref (B + 38), .int (nI nC), .ref (B + 39), .ref (B + 40), .ref (B + 41), .int (nI nW), .ref (B + 42), .int h1, .ref (B + 43), .int (nI nM), .ref (B + 44), .ref (B + 45), .ref (B + 46)])) → w1 28 = some (kl_aI G 24 O) → w1 29 = some (kl_aI G 96 D) → w1 33 = some (kl_aI G 7 lch) → w1 34 = some (kl_aI G 7 ((fun t => nI (lco t)))) → w1 35 = some (kl_aI G 7 lpa) → w1 36 = some (kl_aI G 7 lwy) → w1 37 = some (kl_aI G 5 stb) → w1 38 = some (kl_aI G 5 ((fun t => nI (sco t)))) → w1 39 = some (kl_aI G 5 ctb) → w1 40 = some (kl_aI G 5 ((fun t => nI (cln t)))) → w1 41 = some (kl_aI G 50 ((fun t => nI (cw t)))) → w1 43 = some (kl_aI G 12 gg) → (∀ j : Nat, j ≠ 26 → j ≠ 43 → w1 j = w j) → kl_S G B w1 s.heap H locs → ∀ ls : Array Slot, lv_has ls 2 [(0, .ref (B + 26)), (1, .int (nI x))] → W pg l e rm_X5_wrong s m ([.ref (B + 26)] : List Value).toArray below meth cd H locs (0) (0) (MQ below (kl_Qi G B (fun r w1 => mt_why (md_T n O) D nT nS stb sco nL lch lco lpa nC ctb (fun j i => cw (10 * j + i)) cln r ∧ (∃ h2, w1 26 = some (.inr (5, [.int ec, .int rs, .int (nI nT), .ref (B + 27), .int (nI n), .ref (B + 28), .ref (B + 29), .int (nI on), .ref (B + 30), .ref (B + 31), .ref (B + 32), .int (nI nL), .ref (B + 33), .ref (B + 34), .ref (B + 35), .ref (B + 36), .int (nI nS), .ref (B + 37), .ref (B + 38), .int (nI nC), .ref (B + 39), .ref (B + 40), .ref (B + 41), .int (nI nW), .ref (B + 42), .int h2, .ref (B + 43), .int (nI nM), .ref (B + 44), .ref (B + 45), .ref (B + 46)]))) ∧ (∃ pl2, w1 43 = some (kl_aI G 12 pl2)) ∧ ∀ j : Nat, j ≠ 26 → j ≠ 43 → w1 j = w j)) ([.ref (B + 26)] : List Value).toArray s 0 0 (kl_fr B)) (F0 m 33 ls []) := by
          intro n33
          induction n33 with
          | zero => intro x h1 gg hm; exact absurd hm (Nat.not_lt_zero _)
          | succ n33 ih33 =>
            intro x h1 gg hm hx9 hnb w1 H locs q26 q28 q29 q33 q34 q35 q36 q37 q38 q39 q40 q41 q43 frm hP ls hl
            refine lv_iload_n hx hb dX5_wrong_33 rfl (lv_at hl 1 rfl) ?_
            refine lv_aload_n hx hb dX5_wrong_34 rfl (lv_at hl 0 rfl) ?_
            refine kl_get (C := RX5) (T := TX5) (N := 31) (ci := 5) hx hb hts hinX5 hown hK hP q26 rfl 16 (by decide) (hts (.fieldLink RX5 103 "KinLedgerModel" "singles" "I") (by decide +kernel)) (fun _ h9 => h9) rfl dX5_wrong_35 ?_
            refine kl_ge (tgt := 72) hx hb (by omega) (by omega) dX5_wrong_38 (by decide) (fun c38 => ?_) (fun c38 => ?_)
            · refine lv_iconst (v := nI 0) hx hb dX5_wrong_72 (by decide) ?_
              refine lv_istore_n (lv' := [(1, .int (nI 0)), (0, .ref (B + 26))]) hx hb dX5_wrong_73 rfl hl (by decide) rfl (fun ls hl => ?_)
              have lp74 : ∀ (n74 : Nat) (x : Nat) (h1 : Int32) (gg : Nat → Int32), nL - x < n74 → (x ≤ nL) → (∀ j, j < x → ¬ mt_lbrk (md_T n O) D (lch j) (lco j) (lpa j)) → ∀ (w1 : kl_M) (H : Heap) (locs : List Loc), w1 26 = some (.inr (5, [.int ec, .int rs, .int (nI nT), .ref (B + 27), .int (nI n), .ref (B + 28), .ref (B + 29), .int (nI on), .ref (B + 30), .ref (B + 31), .ref (B + 32), .int (nI nL), .ref (B + 33), .ref (B + 34), .ref (B + 35), .ref (B + 36), .int (nI nS), .ref (B + 37), .ref (B + 38), .int (nI nC), .ref (B + 39), .ref (B + 40), .ref (B + 41), .int (nI nW), .ref (B + 42), .int h1, .ref (B + 43), .int (nI nM), .ref (B + 44), .ref (B + 45), .ref (B + 46)])) → w1 28 = some (kl_aI G 24 O) → w1 29 = some (kl_aI G 96 D) → w1 33 = some (kl_aI G 7 lch) → w1 34 = some (kl_aI G 7 ((fun t => nI (lco t)))) → w1 35 = some (kl_aI G 7 lpa) → w1 36 = some (kl_aI G 7 lwy) → w1 37 = some (kl_aI G 5 stb) → w1 38 = some (kl_aI G 5 ((fun t => nI (sco t)))) → w1 39 = some (kl_aI G 5 ctb) → w1 40 = some (kl_aI G 5 ((fun t => nI (cln t)))) → w1 41 = some (kl_aI G 50 ((fun t => nI (cw t)))) → w1 43 = some (kl_aI G 12 gg) → (∀ j : Nat, j ≠ 26 → j ≠ 43 → w1 j = w j) → kl_S G B w1 s.heap H locs → ∀ ls : Array Slot, lv_has ls 2 [(0, .ref (B + 26)), (1, .int (nI x))] → W pg l e rm_X5_wrong s m ([.ref (B + 26)] : List Value).toArray below meth cd H locs (0) (0) (MQ below (kl_Qi G B (fun r w1 => mt_why (md_T n O) D nT nS stb sco nL lch lco lpa nC ctb (fun j i => cw (10 * j + i)) cln r ∧ (∃ h2, w1 26 = some (.inr (5, [.int ec, .int rs, .int (nI nT), .ref (B + 27), .int (nI n), .ref (B + 28), .ref (B + 29), .int (nI on), .ref (B + 30), .ref (B + 31), .ref (B + 32), .int (nI nL), .ref (B + 33), .ref (B + 34), .ref (B + 35), .ref (B + 36), .int (nI nS), .ref (B + 37), .ref (B + 38), .int (nI nC), .ref (B + 39), .ref (B + 40), .ref (B + 41), .int (nI nW), .ref (B + 42), .int h2, .ref (B + 43), .int (nI nM), .ref (B + 44), .ref (B + 45), .ref (B + 46)]))) ∧ (∃ pl2, w1 43 = some (kl_aI G 12 pl2)) ∧ ∀ j : Nat, j ≠ 26 → j ≠ 43 → w1 j = w j)) ([.ref (B + 26)] : List Value).toArray s 0 0 (kl_fr B)) (F0 m 74 ls []) := by
                intro n74
                induction n74 with
                | zero => intro x h1 gg hm; exact absurd hm (Nat.not_lt_zero _)
                | succ n74 ih74 =>
                  intro x h1 gg hm hx9 hnc w1 H locs q26 q28 q29 q33 q34 q35 q36 q37 q38 q39 q40 q41 q43 frm hP ls hl
                  refine lv_iload_n hx hb dX5_wrong_74 rfl (lv_at hl 1 rfl) ?_
                  refine lv_aload_n hx hb dX5_wrong_75 rfl (lv_at hl 0 rfl) ?_
                  refine kl_get (C := RX5) (T := TX5) (N := 31) (ci := 5) hx hb hts hinX5 hown hK hP q26 rfl 11 (by decide) (hts (.fieldLink RX5 106 "KinLedgerModel" "links" "I") (by decide +kernel)) (fun _ h9 => h9) rfl dX5_wrong_76 ?_
                  refine kl_ge (tgt := 102) hx hb (by omega) (by omega) dX5_wrong_79 (by decide) (fun c79 => ?_) (fun c79 => ?_)
                  · refine lv_iconst (v := nI 0) hx hb dX5_wrong_102 (by decide) ?_
                    refine lv_istore_n (lv' := [(1, .int (nI 0)), (0, .ref (B + 26))]) hx hb dX5_wrong_103 rfl hl (by decide) rfl (fun ls hl => ?_)
                    have lp104 : ∀ (n104 : Nat) (x : Nat) (h1 : Int32) (gg : Nat → Int32), nC - x < n104 → (x ≤ nC) → (∀ j, j < x → ¬ mt_cbrk (md_T n O) D (ctb j) (fun i => cw (10 * j + i)) (cln j)) → ∀ (w1 : kl_M) (H : Heap) (locs : List Loc), w1 26 = some (.inr (5, [.int ec, .int rs, .int (nI nT), .ref (B + 27), .int (nI n), .ref (B + 28), .ref (B + 29), .int (nI on), .ref (B + 30), .ref (B + 31), .ref (B + 32), .int (nI nL), .ref (B + 33), .ref (B + 34), .ref (B + 35), .ref (B + 36), .int (nI nS), .ref (B + 37), .ref (B + 38), .int (nI nC), .ref (B + 39), .ref (B + 40), .ref (B + 41), .int (nI nW), .ref (B + 42), .int h1, .ref (B + 43), .int (nI nM), .ref (B + 44), .ref (B + 45), .ref (B + 46)])) → w1 28 = some (kl_aI G 24 O) → w1 29 = some (kl_aI G 96 D) → w1 33 = some (kl_aI G 7 lch) → w1 34 = some (kl_aI G 7 ((fun t => nI (lco t)))) → w1 35 = some (kl_aI G 7 lpa) → w1 36 = some (kl_aI G 7 lwy) → w1 37 = some (kl_aI G 5 stb) → w1 38 = some (kl_aI G 5 ((fun t => nI (sco t)))) → w1 39 = some (kl_aI G 5 ctb) → w1 40 = some (kl_aI G 5 ((fun t => nI (cln t)))) → w1 41 = some (kl_aI G 50 ((fun t => nI (cw t)))) → w1 43 = some (kl_aI G 12 gg) → (∀ j : Nat, j ≠ 26 → j ≠ 43 → w1 j = w j) → kl_S G B w1 s.heap H locs → ∀ ls : Array Slot, lv_has ls 2 [(0, .ref (B + 26)), (1, .int (nI x))] → W pg l e rm_X5_wrong s m ([.ref (B + 26)] : List Value).toArray below meth cd H locs (0) (0) (MQ below (kl_Qi G B (fun r w1 => mt_why (md_T n O) D nT nS stb sco nL lch lco lpa nC ctb (fun j i => cw (10 * j + i)) cln r ∧ (∃ h2, w1 26 = some (.inr (5, [.int ec, .int rs, .int (nI nT), .ref (B + 27), .int (nI n), .ref (B + 28), .ref (B + 29), .int (nI on), .ref (B + 30), .ref (B + 31), .ref (B + 32), .int (nI nL), .ref (B + 33), .ref (B + 34), .ref (B + 35), .ref (B + 36), .int (nI nS), .ref (B + 37), .ref (B + 38), .int (nI nC), .ref (B + 39), .ref (B + 40), .ref (B + 41), .int (nI nW), .ref (B + 42), .int h2, .ref (B + 43), .int (nI nM), .ref (B + 44), .ref (B + 45), .ref (B + 46)]))) ∧ (∃ pl2, w1 43 = some (kl_aI G 12 pl2)) ∧ ∀ j : Nat, j ≠ 26 → j ≠ 43 → w1 j = w j)) ([.ref (B + 26)] : List Value).toArray s 0 0 (kl_fr B)) (F0 m 104 ls []) := by
                      intro n104
                      induction n104 with
                      | zero => intro x h1 gg hm; exact absurd hm (Nat.not_lt_zero _)
                      | succ n104 ih104 =>
                        intro x h1 gg hm hx9 hnd w1 H locs q26 q28 q29 q33 q34 q35 q36 q37 q38 q39 q40 q41 q43 frm hP ls hl
                        refine lv_iload_n hx hb dX5_wrong_104 rfl (lv_at hl 1 rfl) ?_
                        refine lv_aload_n hx hb dX5_wrong_105 rfl (lv_at hl 0 rfl) ?_
                        refine kl_get (C := RX5) (T := TX5) (N := 31) (ci := 5) hx hb hts hinX5 hown hK hP q26 rfl 19 (by decide) (hts (.fieldLink RX5 112 "KinLedgerModel" "checks" "I") (by decide +kernel)) (fun _ h9 => h9) rfl dX5_wrong_106 ?_
                        refine kl_ge (tgt := 132) hx hb (by omega) (by omega) dX5_wrong_109 (by decide) (fun c109 => ?_) (fun c109 => ?_)
                        · refine lv_iconst (v := nI 0) hx hb dX5_wrong_132 (by decide) ?_
                          exact kl_iret hx hb hr hlocks hP ⟨Or.inr ⟨fun j hj => hna j (by omega), Or.inr ⟨fun j hj => hnb j (by omega), Or.inr ⟨fun j hj => hnc j (by omega), Or.inr ⟨fun j hj => hnd j (by omega), rfl⟩⟩⟩⟩, ⟨_, q26⟩, ⟨_, q43⟩, frm⟩ dX5_wrong_133
                        · refine lv_aload_n hx hb dX5_wrong_112 rfl (lv_at hl 0 rfl) ?_
                          refine lv_iload_n hx hb dX5_wrong_113 rfl (lv_at hl 1 rfl) ?_
                          refine kl_cVi (C := RX5) (i := 26) (As := [.int (nI x)]) (rest := []) ⟨hx, hb, hml, hown, hts⟩ (c_X5_breaksCheck l G B _ (ccol x) (fun i => cw (10 * x + i)) x q26 q28 q29 q39 q40 q41 q43 (by omega) (by omega) (fun _ => rfl) (hrp.2.2 x (by omega)).2.1 (hrp.2.2 x (by omega)).2.2.1 (hrp.2.2 x (by omega)).2.2.2.1 (hrp.2.2 x (by omega)).2.2.2.2 (hrp.2.2 x (by omega)).1) (cwV 1 hts gX5_wrong_X5_breaksCheck rfl rfl rfl (by decide +kernel) ⟨Nat.le_of_ble_eq_true rfl, Nat.le_of_ble_eq_true rfl⟩) hK hP q26 rfl rfl hl.1 rfl (Nat.le_of_ble_eq_true rfl) dX5_wrong_114 ⟨Nat.le_of_ble_eq_true rfl, Nat.le_of_ble_eq_true rfl⟩ (fun r3 w1 H locs q2 hP => ?_)
                          obtain ⟨hv4, ⟨hi5, f6⟩, ⟨pl7, f8⟩, fr9⟩ := q2
                          have q28 : w1 28 = some (kl_aI G 24 O) := (fr9 _ (by decide) (by decide)).trans q28
                          have q29 : w1 29 = some (kl_aI G 96 D) := (fr9 _ (by decide) (by decide)).trans q29
                          have q33 : w1 33 = some (kl_aI G 7 lch) := (fr9 _ (by decide) (by decide)).trans q33
                          have q34 : w1 34 = some (kl_aI G 7 ((fun t => nI (lco t)))) := (fr9 _ (by decide) (by decide)).trans q34
                          have q35 : w1 35 = some (kl_aI G 7 lpa) := (fr9 _ (by decide) (by decide)).trans q35
                          have q36 : w1 36 = some (kl_aI G 7 lwy) := (fr9 _ (by decide) (by decide)).trans q36
                          have q37 : w1 37 = some (kl_aI G 5 stb) := (fr9 _ (by decide) (by decide)).trans q37
                          have q38 : w1 38 = some (kl_aI G 5 ((fun t => nI (sco t)))) := (fr9 _ (by decide) (by decide)).trans q38
                          have q39 : w1 39 = some (kl_aI G 5 ctb) := (fr9 _ (by decide) (by decide)).trans q39
                          have q40 : w1 40 = some (kl_aI G 5 ((fun t => nI (cln t)))) := (fr9 _ (by decide) (by decide)).trans q40
                          have q41 : w1 41 = some (kl_aI G 50 ((fun t => nI (cw t)))) := (fr9 _ (by decide) (by decide)).trans q41
                          have f6 : w1 26 = some (.inr (5, [.int ec, .int rs, .int (nI nT), .ref (B + 27), .int (nI n), .ref (B + 28), .ref (B + 29), .int (nI on), .ref (B + 30), .ref (B + 31), .ref (B + 32), .int (nI nL), .ref (B + 33), .ref (B + 34), .ref (B + 35), .ref (B + 36), .int (nI nS), .ref (B + 37), .ref (B + 38), .int (nI nC), .ref (B + 39), .ref (B + 40), .ref (B + 41), .int (nI nW), .ref (B + 42), .int hi5, .ref (B + 43), .int (nI nM), .ref (B + 44), .ref (B + 45), .ref (B + 46)])) := f6
                          have f8 : w1 43 = some (kl_aI G 12 pl7) := f8
                          have frm : ∀ j : Nat, j ≠ 26 → j ≠ 43 → w1 j = w j := fun j k0 k1 => (fr9 j k0 k1).trans (frm j k0 k1)
                          refine kl_ifeq (tgt := 126) hx hb hv4 dX5_wrong_117 (by decide) (fun c117 => ?_) (fun c117 => ?_)
                          · refine lv_iinc (v := nI (x + 1)) (lv' := [(1, .int (nI (x + 1))), (0, .ref (B + 26))]) hx hb dX5_wrong_126 hl (k := 1) rfl (nI_1 _) (by decide) rfl (fun ls hl => ?_)
                            refine lv_goto (tgt := 104) hx hb dX5_wrong_129 (by decide) ?_
                            exact ih104 (x + 1) hi5 pl7 (by omega) (by first | omega | grind) (lt_s hnd c117) _ _ _ f6 q28 q29 q33 q34 q35 q36 q37 q38 q39 q40 q41 f8 frm hP ls (lv_sub hl [1, 0] rfl)
                          · refine lv_sipush (v := nI 500) hx hb dX5_wrong_120 (by decide) ?_
                            refine lv_iload_n hx hb dX5_wrong_123 rfl (lv_at hl 1 rfl) ?_
                            refine lv_iadd hx hb dX5_wrong_124 ?_
                            refine kl_top (z := nI (500 + x)) (by first | exact nI_add _ _ | (rw [nI_add]; first | rfl | (congr 1; omega))) ?_
                            exact kl_iret hx hb hr hlocks hP ⟨Or.inr ⟨fun j hj => hna j (by omega), Or.inr ⟨fun j hj => hnb j (by omega), Or.inr ⟨fun j hj => hnc j (by omega), Or.inl ⟨x, c109, rfl, c117, hnd⟩⟩⟩⟩, ⟨_, f6⟩, ⟨_, f8⟩, frm⟩ dX5_wrong_125
                    exact lp104 (nC + 1) 0 h1 gg (Nat.lt_succ_of_le (by omega)) (by first | omega | grind) lt_0 _ _ _ q26 q28 q29 q33 q34 q35 q36 q37 q38 q39 q40 q41 q43 frm hP ls (lv_sub hl [1, 0] rfl)
                  · refine lv_aload_n hx hb dX5_wrong_82 rfl (lv_at hl 0 rfl) ?_
                    refine lv_iload_n hx hb dX5_wrong_83 rfl (lv_at hl 1 rfl) ?_
                    refine kl_cVi (C := RX5) (i := 26) (As := [.int (nI x)]) (rest := []) ⟨hx, hb, hml, hown, hts⟩ (c_X5_breaksLink l G B _ x q26 q28 q29 q33 q34 q35 (by omega) (by omega) (hrp.1 x (by omega)).2.2.1.2 (hrp.1 x (by omega)).1 (hrp.1 x (by omega)).2.1) (cwV 1 hts gX5_wrong_X5_breaksLink rfl rfl rfl (by decide +kernel) ⟨Nat.le_of_ble_eq_true rfl, Nat.le_of_ble_eq_true rfl⟩) hK hP q26 rfl rfl hl.1 rfl (Nat.le_of_ble_eq_true rfl) dX5_wrong_84 ⟨Nat.le_of_ble_eq_true rfl, Nat.le_of_ble_eq_true rfl⟩ (fun r12 w10 H locs q11 hP => ?_)
                    obtain ⟨rfl, hv13⟩ := q11
                    refine kl_ifeq (tgt := 96) hx hb hv13 dX5_wrong_87 (by decide) (fun c87 => ?_) (fun c87 => ?_)
                    · refine lv_iinc (v := nI (x + 1)) (lv' := [(1, .int (nI (x + 1))), (0, .ref (B + 26))]) hx hb dX5_wrong_96 hl (k := 1) rfl (nI_1 _) (by decide) rfl (fun ls hl => ?_)
                      refine lv_goto (tgt := 74) hx hb dX5_wrong_99 (by decide) ?_
                      exact ih74 (x + 1) h1 gg (by omega) (by first | omega | grind) (lt_s hnc c87) _ _ _ q26 q28 q29 q33 q34 q35 q36 q37 q38 q39 q40 q41 q43 frm hP ls (lv_sub hl [1, 0] rfl)
                    · refine lv_sipush (v := nI 400) hx hb dX5_wrong_90 (by decide) ?_
                      refine lv_iload_n hx hb dX5_wrong_93 rfl (lv_at hl 1 rfl) ?_
                      refine lv_iadd hx hb dX5_wrong_94 ?_
                      refine kl_top (z := nI (400 + x)) (by first | exact nI_add _ _ | (rw [nI_add]; first | rfl | (congr 1; omega))) ?_
                      exact kl_iret hx hb hr hlocks hP ⟨Or.inr ⟨fun j hj => hna j (by omega), Or.inr ⟨fun j hj => hnb j (by omega), Or.inl ⟨x, c79, rfl, c87, hnc⟩⟩⟩, ⟨_, q26⟩, ⟨_, q43⟩, frm⟩ dX5_wrong_95
              exact lp74 (nL + 1) 0 h1 gg (Nat.lt_succ_of_le (by omega)) (by first | omega | grind) lt_0 _ _ _ q26 q28 q29 q33 q34 q35 q36 q37 q38 q39 q40 q41 q43 frm hP ls (lv_sub hl [1, 0] rfl)
            · have hsx := (hrp.2.1 x (by omega)).2.2
              refine lv_aload_n hx hb dX5_wrong_41 rfl (lv_at hl 0 rfl) ?_
              refine lv_aload_n hx hb dX5_wrong_42 rfl (lv_at hl 0 rfl) ?_
              refine kl_get (C := RX5) (T := TX5) (N := 31) (ci := 5) hx hb hts hinX5 hown hK hP q26 rfl 17 (by decide) (hts (.fieldLink RX5 41 "KinLedgerModel" "singleTable" "[I") (by decide +kernel)) (fun _ h9 => h9) rfl dX5_wrong_43 ?_
              refine lv_iload_n hx hb dX5_wrong_46 rfl (lv_at hl 1 rfl) ?_
              refine kl_iald hx hb hK hP q37 (by omega) (by omega) dX5_wrong_47 ?_
              refine lv_aload_n hx hb dX5_wrong_48 rfl (lv_at hl 0 rfl) ?_
              refine kl_get (C := RX5) (T := TX5) (N := 31) (ci := 5) hx hb hts hinX5 hown hK hP q26 rfl 18 (by decide) (hts (.fieldLink RX5 44 "KinLedgerModel" "singleColumn" "[I") (by decide +kernel)) (fun _ h9 => h9) rfl dX5_wrong_49 ?_
              refine lv_iload_n hx hb dX5_wrong_52 rfl (lv_at hl 1 rfl) ?_
              refine kl_iald hx hb hK hP q38 (by omega) (by omega) dX5_wrong_53 ?_
              refine kl_top (z := nI (sco x)) rfl ?_
              refine kl_cVi (C := RX5) (i := 26) (As := [.int (stb x), .int (nI (sco x))]) (rest := []) ⟨hx, hb, hml, hown, hts⟩ (c_X5_twice l G B _ (stb x) (sco x) q26 q28 q29 (by omega) (by omega) (hrp.2.1 x (by omega)).1) (cwV 2 hts gX5_wrong_X5_twice rfl rfl rfl (by decide +kernel) ⟨Nat.le_of_ble_eq_true rfl, Nat.le_of_ble_eq_true rfl⟩) hK hP q26 rfl rfl hl.1 rfl (Nat.le_of_ble_eq_true rfl) dX5_wrong_54 ⟨Nat.le_of_ble_eq_true rfl, Nat.le_of_ble_eq_true rfl⟩ (fun r16 w14 H locs q15 hP => ?_)
              obtain ⟨rfl, hv17⟩ := q15
              refine kl_ifeq (tgt := 66) hx hb hv17 dX5_wrong_57 (by decide) (fun c57 => ?_) (fun c57 => ?_)
              · refine lv_iinc (v := nI (x + 1)) (lv' := [(1, .int (nI (x + 1))), (0, .ref (B + 26))]) hx hb dX5_wrong_66 hl (k := 1) rfl (nI_1 _) (by decide) rfl (fun ls hl => ?_)
                refine lv_goto (tgt := 33) hx hb dX5_wrong_69 (by decide) ?_
                exact ih33 (x + 1) h1 gg (by omega) (by first | omega | grind) (lt_s hnb c57) _ _ _ q26 q28 q29 q33 q34 q35 q36 q37 q38 q39 q40 q41 q43 frm hP ls (lv_sub hl [1, 0] rfl)
              · refine lv_sipush (v := nI 300) hx hb dX5_wrong_60 (by decide) ?_
                refine lv_iload_n hx hb dX5_wrong_63 rfl (lv_at hl 1 rfl) ?_
                refine lv_iadd hx hb dX5_wrong_64 ?_
                refine kl_top (z := nI (300 + x)) (by first | exact nI_add _ _ | (rw [nI_add]; first | rfl | (congr 1; omega))) ?_
                exact kl_iret hx hb hr hlocks hP ⟨Or.inr ⟨fun j hj => hna j (by omega), Or.inl ⟨x, c38, rfl, c57, hnb⟩⟩, ⟨_, q26⟩, ⟨_, q43⟩, frm⟩ dX5_wrong_65
        exact lp33 (nS + 1) 0 h1 gg (Nat.lt_succ_of_le (by omega)) (by first | omega | grind) lt_0 _ _ _ q26 q28 q29 q33 q34 q35 q36 q37 q38 q39 q40 q41 q43 frm hP ls (lv_sub hl [1, 0] rfl)
      · refine lv_aload_n hx hb dX5_wrong_10 rfl (lv_at hl 0 rfl) ?_
        refine lv_iload_n hx hb dX5_wrong_11 rfl (lv_at hl 1 rfl) ?_
        refine lv_iconst (v := nI 0) hx hb dX5_wrong_12 (by decide) ?_
        refine kl_cVi (C := RX5) (i := 26) (As := [.int (nI x), .int (nI 0)]) (rest := []) ⟨hx, hb, hml, hown, hts⟩ (c_X5_twice l G B _ (nI x) 0 q26 q28 q29 (by omega) (by omega) (kl_nm1 (by omega))) (cwV 2 hts gX5_wrong_X5_twice rfl rfl rfl (by decide +kernel) ⟨Nat.le_of_ble_eq_true rfl, Nat.le_of_ble_eq_true rfl⟩) hK hP q26 rfl rfl hl.1 rfl (Nat.le_of_ble_eq_true rfl) dX5_wrong_13 ⟨Nat.le_of_ble_eq_true rfl, Nat.le_of_ble_eq_true rfl⟩ (fun r20 w18 H locs q19 hP => ?_)
        obtain ⟨rfl, hv21⟩ := q19
        refine kl_ifeq (tgt := 25) hx hb hv21 dX5_wrong_16 (by decide) (fun c16 => ?_) (fun c16 => ?_)
        · refine lv_iinc (v := nI (x + 1)) (lv' := [(1, .int (nI (x + 1))), (0, .ref (B + 26))]) hx hb dX5_wrong_25 hl (k := 1) rfl (nI_1 _) (by decide) rfl (fun ls hl => ?_)
          refine lv_goto (tgt := 2) hx hb dX5_wrong_28 (by decide) ?_
          exact ih2 (x + 1) h1 gg (by omega) (by first | omega | grind) (lt_s hna c16) _ _ _ q26 q28 q29 q33 q34 q35 q36 q37 q38 q39 q40 q41 q43 frm hP ls (lv_sub hl [1, 0] rfl)
        · refine lv_sipush (v := nI 200) hx hb dX5_wrong_19 (by decide) ?_
          refine lv_iload_n hx hb dX5_wrong_22 rfl (lv_at hl 1 rfl) ?_
          refine lv_iadd hx hb dX5_wrong_23 ?_
          refine kl_top (z := nI (200 + x)) (by first | exact nI_add _ _ | (rw [nI_add]; first | rfl | (congr 1; omega))) ?_
          exact kl_iret hx hb hr hlocks hP ⟨Or.inl ⟨x, c7, rfl, c16, hna⟩, ⟨_, q26⟩, ⟨_, q43⟩, frm⟩ dX5_wrong_24
  exact lp2 (nT + 1) 0 hi pl (Nat.lt_succ_of_le (by omega)) (by first | omega | grind) lt_0 _ _ _ q26 q28 q29 q33 q34 q35 q36 q37 q38 q39 q40 q41 q43 frm hP ls (lv_sub hl [1, 0] rfl)
