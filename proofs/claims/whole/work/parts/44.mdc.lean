abbrev rm_X5_remember : Room := { frames := 0, cells := 0, slots := 0, locals := 0 }
set_option maxHeartbeats 4000000 in
set_option maxRecDepth 100000 in
theorem c_X5_remember (l : Launch) (G : kl_G) (B : Nat) (w : kl_M) {nT nL nS nC nW nM n on : Nat} {ec rs hi : Int32} {O D oO oD gn : Nat → Int32} (q26 : w 26 = some (.inr (5, [.int ec, .int rs, .int (nI nT), .ref (B + 27), .int (nI n), .ref (B + 28), .ref (B + 29), .int (nI on), .ref (B + 30), .ref (B + 31), .ref (B + 32), .int (nI nL), .ref (B + 33), .ref (B + 34), .ref (B + 35), .ref (B + 36), .int (nI nS), .ref (B + 37), .ref (B + 38), .int (nI nC), .ref (B + 39), .ref (B + 40), .ref (B + 41), .int (nI nW), .ref (B + 42), .int hi, .ref (B + 43), .int (nI nM), .ref (B + 44), .ref (B + 45), .ref (B + 46)]))) (q28 : w 28 = some (kl_aI G 24 O)) (q29 : w 29 = some (kl_aI G 96 D)) (q30 : w 30 = some (kl_aI G 24 oO)) (q31 : w 31 = some (kl_aI G 96 oD)) (q32 : w 32 = some (kl_aZ G 24 gn)) (hn : n ≤ 24) : Met l yX5_remember wsX5_remember rm_X5_remember (kl_Pc G B w [.ref (B + 26)]) (kl_Qv G B (fun w1 => w1 26 = some (.inr (5, [.int ec, .int rs, .int (nI nT), .ref (B + 27), .int (nI n), .ref (B + 28), .ref (B + 29), .int (nI n), .ref (B + 30), .ref (B + 31), .ref (B + 32), .int (nI nL), .ref (B + 33), .ref (B + 34), .ref (B + 35), .ref (B + 36), .int (nI nS), .ref (B + 37), .ref (B + 38), .int (nI nC), .ref (B + 39), .ref (B + 40), .ref (B + 41), .int (nI nW), .ref (B + 42), .int hi, .ref (B + 43), .int (nI nM), .ref (B + 44), .ref (B + 45), .ref (B + 46)])) ∧ (∃ sO sD sG, w1 30 = some (kl_aI G 24 sO) ∧ w1 31 = some (kl_aI G 96 sD) ∧ w1 32 = some (kl_aZ G 24 sG) ∧ (∀ q, q < n → sO q = O q) ∧ ∀ q, q < 4 * n → sD q = D q) ∧ ∀ j : Nat, j ≠ 26 → j ≠ 30 → j ≠ 31 → j ≠ 32 → w1 j = w j)) 0 0 (kl_fr B) := by
  refine Met.ofW (cc := cX5_remember) (maxL := 2) (ret := none) (by decide) rfl ?_
  intro pg e s m args below meth cd s₁ Bd hml hv
  obtain ⟨rfl, hP0, hK⟩ := hv
  have hx := Bd.exec
  have hb := Bd.bytes
  have hr := Bd.returns
  have hts := atoms_spec (ws := wsX5_remember) Bd.pre
  have hown : s.vm.findClass RX5 = some m.cls := findClass_of_methodNamed Bd.named
  have hlocks := Bd.notSynchronized
  have hinX5 : ∀ w ∈ u_ws RX5 TX5 31, w ∈ wsX5_remember := by decide +kernel
  have hP := kl_S.rf hP0
  have hl := lv_entry ([.ref (B + 26)]) (n := 2) (Nat.le_of_ble_eq_true rfl)
  rw [lg_entry_eq]
  generalize (lg_sl ([.ref (B + 26)]) ++ List.replicate (2 - (lg_sl ([.ref (B + 26)])).length) Slot.unset).toArray = ls at hl ⊢
  have hl : lv_has ls 2 [(0, .ref (B + 26))] := hl
  have frm : ∀ j : Nat, j ≠ 26 → j ≠ 30 → j ≠ 31 → j ≠ 32 → w j = w j := fun j _ _ _ _ => rfl
  refine lv_aload_n hx hb dX5_remember_0 rfl (lv_at hl 0 rfl) ?_
  refine lv_aload_n hx hb dX5_remember_1 rfl (lv_at hl 0 rfl) ?_
  refine kl_get (C := RX5) (T := TX5) (N := 31) (ci := 5) hx hb hts hinX5 hown hK hP q26 rfl 4 (by decide) (hts (.fieldLink RX5 82 "KinLedgerModel" "rows" "I") (by decide +kernel)) (fun _ h9 => h9) rfl dX5_remember_2 ?_
  refine kl_put (C := RX5) (T := TX5) (N := 31) (ci := 5) (v := .int (nI n)) (ty := .int) hx hb hts hinX5 tyX5 tyX5_ok nmX5 hown hK hP q26 rfl 7 (by decide) (hts (.fieldLink RX5 130 "KinLedgerModel" "oldRows" "I") (by decide +kernel)) (fun _ h9 => h9) rfl (by decide +kernel) rfl rfl (Nat.le_of_ble_eq_true rfl) dX5_remember_5 (fun w1 H locs f2 fr3 hzw1 hP => ?_)
  have f2 : w1 26 = some (.inr (5, [.int ec, .int rs, .int (nI nT), .ref (B + 27), .int (nI n), .ref (B + 28), .ref (B + 29), .int (nI n), .ref (B + 30), .ref (B + 31), .ref (B + 32), .int (nI nL), .ref (B + 33), .ref (B + 34), .ref (B + 35), .ref (B + 36), .int (nI nS), .ref (B + 37), .ref (B + 38), .int (nI nC), .ref (B + 39), .ref (B + 40), .ref (B + 41), .int (nI nW), .ref (B + 42), .int hi, .ref (B + 43), .int (nI nM), .ref (B + 44), .ref (B + 45), .ref (B + 46)])) := f2
  have q28 : w1 28 = some (kl_aI G 24 O) := (fr3 _ (by decide)).trans q28
  have q29 : w1 29 = some (kl_aI G 96 D) := (fr3 _ (by decide)).trans q29
  have q30 : w1 30 = some (kl_aI G 24 oO) := (fr3 _ (by decide)).trans q30
  have q31 : w1 31 = some (kl_aI G 96 oD) := (fr3 _ (by decide)).trans q31
  have q32 : w1 32 = some (kl_aZ G 24 gn) := (fr3 _ (by decide)).trans q32
  have frm : ∀ j : Nat, j ≠ 26 → j ≠ 30 → j ≠ 31 → j ≠ 32 → w1 j = w j := fun j k0 k1 k2 k3 => (fr3 j k0).trans (frm j k0 k1 k2 k3)
  refine lv_iconst (v := nI 0) hx hb dX5_remember_8 (by decide) ?_
  refine lv_istore_n (lv' := [(1, .int (nI 0)), (0, .ref (B + 26))]) hx hb dX5_remember_9 rfl hl (by decide) rfl (fun ls hl => ?_)
  have lp10 : ∀ (n10 : Nat) (r9 : Nat) (o2 : Nat → Int32) (gg : Nat → Int32), n - r9 < n10 → (r9 ≤ n) → (∀ q, q < r9 → o2 q = O q) → ∀ (w1 : kl_M) (H : Heap) (locs : List Loc), w1 26 = some (.inr (5, [.int ec, .int rs, .int (nI nT), .ref (B + 27), .int (nI n), .ref (B + 28), .ref (B + 29), .int (nI n), .ref (B + 30), .ref (B + 31), .ref (B + 32), .int (nI nL), .ref (B + 33), .ref (B + 34), .ref (B + 35), .ref (B + 36), .int (nI nS), .ref (B + 37), .ref (B + 38), .int (nI nC), .ref (B + 39), .ref (B + 40), .ref (B + 41), .int (nI nW), .ref (B + 42), .int hi, .ref (B + 43), .int (nI nM), .ref (B + 44), .ref (B + 45), .ref (B + 46)])) → w1 28 = some (kl_aI G 24 O) → w1 29 = some (kl_aI G 96 D) → w1 30 = some (kl_aI G 24 o2) → w1 31 = some (kl_aI G 96 oD) → w1 32 = some (kl_aZ G 24 gg) → (∀ j : Nat, j ≠ 26 → j ≠ 30 → j ≠ 31 → j ≠ 32 → w1 j = w j) → kl_S G B w1 s.heap H locs → ∀ ls : Array Slot, lv_has ls 2 [(0, .ref (B + 26)), (1, .int (nI r9))] → W pg l e rm_X5_remember s m ([.ref (B + 26)] : List Value).toArray below meth cd H locs (0) (0) (MQ below (kl_Qv G B (fun w1 => w1 26 = some (.inr (5, [.int ec, .int rs, .int (nI nT), .ref (B + 27), .int (nI n), .ref (B + 28), .ref (B + 29), .int (nI n), .ref (B + 30), .ref (B + 31), .ref (B + 32), .int (nI nL), .ref (B + 33), .ref (B + 34), .ref (B + 35), .ref (B + 36), .int (nI nS), .ref (B + 37), .ref (B + 38), .int (nI nC), .ref (B + 39), .ref (B + 40), .ref (B + 41), .int (nI nW), .ref (B + 42), .int hi, .ref (B + 43), .int (nI nM), .ref (B + 44), .ref (B + 45), .ref (B + 46)])) ∧ (∃ sO sD sG, w1 30 = some (kl_aI G 24 sO) ∧ w1 31 = some (kl_aI G 96 sD) ∧ w1 32 = some (kl_aZ G 24 sG) ∧ (∀ q, q < n → sO q = O q) ∧ ∀ q, q < 4 * n → sD q = D q) ∧ ∀ j : Nat, j ≠ 26 → j ≠ 30 → j ≠ 31 → j ≠ 32 → w1 j = w j)) ([.ref (B + 26)] : List Value).toArray s 0 0 (kl_fr B)) (F0 m 10 ls []) := by
    intro n10
    induction n10 with
    | zero => intro r9 o2 gg hm; exact absurd hm (Nat.not_lt_zero _)
    | succ n10 ih10 =>
      intro r9 o2 gg hm hr9 ho w1 H locs f2 q28 q29 q30 q31 q32 frm hP ls hl
      refine lv_iload_n hx hb dX5_remember_10 rfl (lv_at hl 1 rfl) ?_
      refine lv_aload_n hx hb dX5_remember_11 rfl (lv_at hl 0 rfl) ?_
      refine kl_get (C := RX5) (T := TX5) (N := 31) (ci := 5) hx hb hts hinX5 hown hK hP f2 rfl 4 (by decide) (hts (.fieldLink RX5 82 "KinLedgerModel" "rows" "I") (by decide +kernel)) (fun _ h9 => h9) rfl dX5_remember_12 ?_
      refine kl_ge (tgt := 43) hx hb (by omega) (by omega) dX5_remember_15 (by decide) (fun c15 => ?_) (fun c15 => ?_)
      · refine lv_iconst (v := nI 0) hx hb dX5_remember_43 (by decide) ?_
        refine lv_istore_n (lv' := [(1, .int (nI 0)), (0, .ref (B + 26))]) hx hb dX5_remember_44 rfl hl (by decide) rfl (fun ls hl => ?_)
        have lp45 : ∀ (n45 : Nat) (k9 : Nat) (d2 : Nat → Int32), 4 * n - k9 < n45 → (k9 ≤ 4 * n) → (∀ q, q < k9 → d2 q = D q) → ∀ (w1 : kl_M) (H : Heap) (locs : List Loc), w1 26 = some (.inr (5, [.int ec, .int rs, .int (nI nT), .ref (B + 27), .int (nI n), .ref (B + 28), .ref (B + 29), .int (nI n), .ref (B + 30), .ref (B + 31), .ref (B + 32), .int (nI nL), .ref (B + 33), .ref (B + 34), .ref (B + 35), .ref (B + 36), .int (nI nS), .ref (B + 37), .ref (B + 38), .int (nI nC), .ref (B + 39), .ref (B + 40), .ref (B + 41), .int (nI nW), .ref (B + 42), .int hi, .ref (B + 43), .int (nI nM), .ref (B + 44), .ref (B + 45), .ref (B + 46)])) → w1 28 = some (kl_aI G 24 O) → w1 29 = some (kl_aI G 96 D) → w1 30 = some (kl_aI G 24 o2) → w1 31 = some (kl_aI G 96 d2) → w1 32 = some (kl_aZ G 24 gg) → (∀ j : Nat, j ≠ 26 → j ≠ 30 → j ≠ 31 → j ≠ 32 → w1 j = w j) → kl_S G B w1 s.heap H locs → ∀ ls : Array Slot, lv_has ls 2 [(0, .ref (B + 26)), (1, .int (nI k9))] → W pg l e rm_X5_remember s m ([.ref (B + 26)] : List Value).toArray below meth cd H locs (0) (0) (MQ below (kl_Qv G B (fun w1 => w1 26 = some (.inr (5, [.int ec, .int rs, .int (nI nT), .ref (B + 27), .int (nI n), .ref (B + 28), .ref (B + 29), .int (nI n), .ref (B + 30), .ref (B + 31), .ref (B + 32), .int (nI nL), .ref (B + 33), .ref (B + 34), .ref (B + 35), .ref (B + 36), .int (nI nS), .ref (B + 37), .ref (B + 38), .int (nI nC), .ref (B + 39), .ref (B + 40), .ref (B + 41), .int (nI nW), .ref (B + 42), .int hi, .ref (B + 43), .int (nI nM), .ref (B + 44), .ref (B + 45), .ref (B + 46)])) ∧ (∃ sO sD sG, w1 30 = some (kl_aI G 24 sO) ∧ w1 31 = some (kl_aI G 96 sD) ∧ w1 32 = some (kl_aZ G 24 sG) ∧ (∀ q, q < n → sO q = O q) ∧ ∀ q, q < 4 * n → sD q = D q) ∧ ∀ j : Nat, j ≠ 26 → j ≠ 30 → j ≠ 31 → j ≠ 32 → w1 j = w j)) ([.ref (B + 26)] : List Value).toArray s 0 0 (kl_fr B)) (F0 m 45 ls []) := by
          intro n45
          induction n45 with
          | zero => intro k9 d2 hm; exact absurd hm (Nat.not_lt_zero _)
          | succ n45 ih45 =>
            intro k9 d2 hm hk9 hd w1 H locs f2 q28 q29 q30 q31 q32 frm hP ls hl
            refine lv_iload_n hx hb dX5_remember_45 rfl (lv_at hl 1 rfl) ?_
            refine lv_iconst (v := nI 4) hx hb dX5_remember_46 (by decide) ?_
            refine lv_aload_n hx hb dX5_remember_47 rfl (lv_at hl 0 rfl) ?_
            refine kl_get (C := RX5) (T := TX5) (N := 31) (ci := 5) hx hb hts hinX5 hown hK hP f2 rfl 4 (by decide) (hts (.fieldLink RX5 82 "KinLedgerModel" "rows" "I") (by decide +kernel)) (fun _ h9 => h9) rfl dX5_remember_48 ?_
            refine lv_imul hx hb dX5_remember_51 ?_
            refine kl_top (z := nI (4 * n)) (pk_mul _ _) ?_
            refine kl_ge (tgt := 73) hx hb (by omega) (by omega) dX5_remember_52 (by decide) (fun c52 => ?_) (fun c52 => ?_)
            · exact kl_vret hx hb hr hlocks hP ⟨f2, ⟨_, _, _, q30, q31, q32, fun q hq => ho q (by omega), fun q hq => hd q (by omega)⟩, frm⟩ dX5_remember_73
            · refine lv_aload_n hx hb dX5_remember_55 rfl (lv_at hl 0 rfl) ?_
              refine kl_get (C := RX5) (T := TX5) (N := 31) (ci := 5) hx hb hts hinX5 hown hK hP f2 rfl 9 (by decide) (hts (.fieldLink RX5 22 "KinLedgerModel" "old" "[I") (by decide +kernel)) (fun _ h9 => h9) rfl dX5_remember_56 ?_
              refine lv_iload_n hx hb dX5_remember_59 rfl (lv_at hl 1 rfl) ?_
              refine lv_aload_n hx hb dX5_remember_60 rfl (lv_at hl 0 rfl) ?_
              refine kl_get (C := RX5) (T := TX5) (N := 31) (ci := 5) hx hb hts hinX5 hown hK hP f2 rfl 6 (by decide) (hts (.fieldLink RX5 16 "KinLedgerModel" "cells" "[I") (by decide +kernel)) (fun _ h9 => h9) rfl dX5_remember_61 ?_
              refine lv_iload_n hx hb dX5_remember_64 rfl (lv_at hl 1 rfl) ?_
              refine kl_iald hx hb hK hP q29 (by omega) (by omega) dX5_remember_65 ?_
              refine kl_iast hx hb hK hP q31 (by omega) (by omega) dX5_remember_66 (fun w4 H locs f5 fr6 hzw4 hP => ?_)
              have f2 : w4 26 = some (.inr (5, [.int ec, .int rs, .int (nI nT), .ref (B + 27), .int (nI n), .ref (B + 28), .ref (B + 29), .int (nI n), .ref (B + 30), .ref (B + 31), .ref (B + 32), .int (nI nL), .ref (B + 33), .ref (B + 34), .ref (B + 35), .ref (B + 36), .int (nI nS), .ref (B + 37), .ref (B + 38), .int (nI nC), .ref (B + 39), .ref (B + 40), .ref (B + 41), .int (nI nW), .ref (B + 42), .int hi, .ref (B + 43), .int (nI nM), .ref (B + 44), .ref (B + 45), .ref (B + 46)])) := (fr6 _ (by decide)).trans f2
              have q28 : w4 28 = some (kl_aI G 24 O) := (fr6 _ (by decide)).trans q28
              have q29 : w4 29 = some (kl_aI G 96 D) := (fr6 _ (by decide)).trans q29
              have q30 : w4 30 = some (kl_aI G 24 o2) := (fr6 _ (by decide)).trans q30
              have q32 : w4 32 = some (kl_aZ G 24 gg) := (fr6 _ (by decide)).trans q32
              have frm : ∀ j : Nat, j ≠ 26 → j ≠ 30 → j ≠ 31 → j ≠ 32 → w4 j = w j := fun j k0 k1 k2 k3 => (fr6 j k2).trans (frm j k0 k1 k2 k3)
              refine lv_iinc (v := nI (k9 + 1)) (lv' := [(1, .int (nI (k9 + 1))), (0, .ref (B + 26))]) hx hb dX5_remember_67 hl (k := 1) rfl (nI_1 _) (by decide) rfl (fun ls hl => ?_)
              refine lv_goto (tgt := 45) hx hb dX5_remember_70 (by decide) ?_
              exact ih45 (k9 + 1) (upd d2 k9 (D k9)) (by omega) (by first | omega | grind) (mt_upd_sp (Sp := fun q v => v = D q) hd rfl) _ _ _ f2 q28 q29 q30 f5 q32 frm hP ls (lv_sub hl [1, 0] rfl)
        exact lp45 ((4 * n) + 1) 0 oD (Nat.lt_succ_of_le (by omega)) (by first | omega | grind) lt_0 _ _ _ f2 q28 q29 q30 q31 q32 frm hP ls (lv_sub hl [1, 0] rfl)
      · refine lv_aload_n hx hb dX5_remember_18 rfl (lv_at hl 0 rfl) ?_
        refine kl_get (C := RX5) (T := TX5) (N := 31) (ci := 5) hx hb hts hinX5 hown hK hP f2 rfl 8 (by decide) (hts (.fieldLink RX5 19 "KinLedgerModel" "oldOf" "[I") (by decide +kernel)) (fun _ h9 => h9) rfl dX5_remember_19 ?_
        refine lv_iload_n hx hb dX5_remember_22 rfl (lv_at hl 1 rfl) ?_
        refine lv_aload_n hx hb dX5_remember_23 rfl (lv_at hl 0 rfl) ?_
        refine kl_get (C := RX5) (T := TX5) (N := 31) (ci := 5) hx hb hts hinX5 hown hK hP f2 rfl 5 (by decide) (hts (.fieldLink RX5 13 "KinLedgerModel" "of" "[I") (by decide +kernel)) (fun _ h9 => h9) rfl dX5_remember_24 ?_
        refine lv_iload_n hx hb dX5_remember_27 rfl (lv_at hl 1 rfl) ?_
        refine kl_iald hx hb hK hP q28 (by omega) (by omega) dX5_remember_28 ?_
        refine kl_iast hx hb hK hP q30 (by omega) (by omega) dX5_remember_29 (fun w7 H locs f8 fr9 hzw7 hP => ?_)
        have f2 : w7 26 = some (.inr (5, [.int ec, .int rs, .int (nI nT), .ref (B + 27), .int (nI n), .ref (B + 28), .ref (B + 29), .int (nI n), .ref (B + 30), .ref (B + 31), .ref (B + 32), .int (nI nL), .ref (B + 33), .ref (B + 34), .ref (B + 35), .ref (B + 36), .int (nI nS), .ref (B + 37), .ref (B + 38), .int (nI nC), .ref (B + 39), .ref (B + 40), .ref (B + 41), .int (nI nW), .ref (B + 42), .int hi, .ref (B + 43), .int (nI nM), .ref (B + 44), .ref (B + 45), .ref (B + 46)])) := (fr9 _ (by decide)).trans f2
        have q28 : w7 28 = some (kl_aI G 24 O) := (fr9 _ (by decide)).trans q28
        have q29 : w7 29 = some (kl_aI G 96 D) := (fr9 _ (by decide)).trans q29
        have q31 : w7 31 = some (kl_aI G 96 oD) := (fr9 _ (by decide)).trans q31
        have q32 : w7 32 = some (kl_aZ G 24 gg) := (fr9 _ (by decide)).trans q32
        have frm : ∀ j : Nat, j ≠ 26 → j ≠ 30 → j ≠ 31 → j ≠ 32 → w7 j = w j := fun j k0 k1 k2 k3 => (fr9 j k1).trans (frm j k0 k1 k2 k3)
        refine lv_aload_n hx hb dX5_remember_30 rfl (lv_at hl 0 rfl) ?_
        refine kl_get (C := RX5) (T := TX5) (N := 31) (ci := 5) hx hb hts hinX5 hown hK hP f2 rfl 10 (by decide) (hts (.fieldLink RX5 25 "KinLedgerModel" "gone" "[Z") (by decide +kernel)) (fun _ h9 => h9) rfl dX5_remember_31 ?_
        refine lv_iload_n hx hb dX5_remember_34 rfl (lv_at hl 1 rfl) ?_
        refine lv_iconst (v := nI 0) hx hb dX5_remember_35 (by decide) ?_
        refine kl_zast hx hb hK hP q32 (by omega) (by omega) (y := nI 0) (by decide) dX5_remember_36 (fun w10 H locs f11 fr12 hzw10 hP => ?_)
        have f2 : w10 26 = some (.inr (5, [.int ec, .int rs, .int (nI nT), .ref (B + 27), .int (nI n), .ref (B + 28), .ref (B + 29), .int (nI n), .ref (B + 30), .ref (B + 31), .ref (B + 32), .int (nI nL), .ref (B + 33), .ref (B + 34), .ref (B + 35), .ref (B + 36), .int (nI nS), .ref (B + 37), .ref (B + 38), .int (nI nC), .ref (B + 39), .ref (B + 40), .ref (B + 41), .int (nI nW), .ref (B + 42), .int hi, .ref (B + 43), .int (nI nM), .ref (B + 44), .ref (B + 45), .ref (B + 46)])) := (fr12 _ (by decide)).trans f2
        have q28 : w10 28 = some (kl_aI G 24 O) := (fr12 _ (by decide)).trans q28
        have q29 : w10 29 = some (kl_aI G 96 D) := (fr12 _ (by decide)).trans q29
        have f8 : w10 30 = some (kl_aI G 24 (upd o2 r9 (O r9))) := (fr12 _ (by decide)).trans f8
        have q31 : w10 31 = some (kl_aI G 96 oD) := (fr12 _ (by decide)).trans q31
        have frm : ∀ j : Nat, j ≠ 26 → j ≠ 30 → j ≠ 31 → j ≠ 32 → w10 j = w j := fun j k0 k1 k2 k3 => (fr12 j k3).trans (frm j k0 k1 k2 k3)
        refine lv_iinc (v := nI (r9 + 1)) (lv' := [(1, .int (nI (r9 + 1))), (0, .ref (B + 26))]) hx hb dX5_remember_37 hl (k := 1) rfl (nI_1 _) (by decide) rfl (fun ls hl => ?_)
        refine lv_goto (tgt := 10) hx hb dX5_remember_40 (by decide) ?_
        exact ih10 (r9 + 1) (upd o2 r9 (O r9)) (upd gg r9 (nI 0)) (by omega) (by first | omega | grind) (mt_upd_sp (Sp := fun q v => v = O q) ho rfl) _ _ _ f2 q28 q29 f8 q31 f11 frm hP ls (lv_sub hl [1, 0] rfl)
  exact lp10 (n + 1) 0 oO gn (Nat.lt_succ_of_le (by omega)) (by first | omega | grind) lt_0 _ _ _ f2 q28 q29 q30 q31 q32 frm hP ls (lv_sub hl [1, 0] rfl)

abbrev rm_X5_restore : Room := { frames := 0, cells := 0, slots := 0, locals := 0 }
set_option maxHeartbeats 4000000 in
set_option maxRecDepth 100000 in
theorem c_X5_restore (l : Launch) (G : kl_G) (B : Nat) (w : kl_M) {nT nL nS nC nW nM n on : Nat} {ec rs hi : Int32} {O D oO oD : Nat → Int32} (q26 : w 26 = some (.inr (5, [.int ec, .int rs, .int (nI nT), .ref (B + 27), .int (nI n), .ref (B + 28), .ref (B + 29), .int (nI on), .ref (B + 30), .ref (B + 31), .ref (B + 32), .int (nI nL), .ref (B + 33), .ref (B + 34), .ref (B + 35), .ref (B + 36), .int (nI nS), .ref (B + 37), .ref (B + 38), .int (nI nC), .ref (B + 39), .ref (B + 40), .ref (B + 41), .int (nI nW), .ref (B + 42), .int hi, .ref (B + 43), .int (nI nM), .ref (B + 44), .ref (B + 45), .ref (B + 46)]))) (q28 : w 28 = some (kl_aI G 24 O)) (q29 : w 29 = some (kl_aI G 96 D)) (q30 : w 30 = some (kl_aI G 24 oO)) (q31 : w 31 = some (kl_aI G 96 oD)) (hn : on ≤ 24) : Met l yX5_restore wsX5_restore rm_X5_restore (kl_Pc G B w [.ref (B + 26)]) (kl_Qv G B (fun w1 => w1 26 = some (.inr (5, [.int ec, .int rs, .int (nI nT), .ref (B + 27), .int (nI on), .ref (B + 28), .ref (B + 29), .int (nI on), .ref (B + 30), .ref (B + 31), .ref (B + 32), .int (nI nL), .ref (B + 33), .ref (B + 34), .ref (B + 35), .ref (B + 36), .int (nI nS), .ref (B + 37), .ref (B + 38), .int (nI nC), .ref (B + 39), .ref (B + 40), .ref (B + 41), .int (nI nW), .ref (B + 42), .int hi, .ref (B + 43), .int (nI nM), .ref (B + 44), .ref (B + 45), .ref (B + 46)])) ∧ (∃ O2 D2, w1 28 = some (kl_aI G 24 O2) ∧ w1 29 = some (kl_aI G 96 D2) ∧ (∀ q, q < on → O2 q = oO q) ∧ ∀ q, q < 4 * on → D2 q = oD q) ∧ ∀ j : Nat, j ≠ 26 → j ≠ 28 → j ≠ 29 → w1 j = w j)) 0 0 (kl_fr B) := by
  refine Met.ofW (cc := cX5_restore) (maxL := 2) (ret := none) (by decide) rfl ?_
  intro pg e s m args below meth cd s₁ Bd hml hv
  obtain ⟨rfl, hP0, hK⟩ := hv
  have hx := Bd.exec
  have hb := Bd.bytes
  have hr := Bd.returns
  have hts := atoms_spec (ws := wsX5_restore) Bd.pre
  have hown : s.vm.findClass RX5 = some m.cls := findClass_of_methodNamed Bd.named
  have hlocks := Bd.notSynchronized
  have hinX5 : ∀ w ∈ u_ws RX5 TX5 31, w ∈ wsX5_restore := by decide +kernel
  have hP := kl_S.rf hP0
  have hl := lv_entry ([.ref (B + 26)]) (n := 2) (Nat.le_of_ble_eq_true rfl)
  rw [lg_entry_eq]
  generalize (lg_sl ([.ref (B + 26)]) ++ List.replicate (2 - (lg_sl ([.ref (B + 26)])).length) Slot.unset).toArray = ls at hl ⊢
  have hl : lv_has ls 2 [(0, .ref (B + 26))] := hl
  have frm : ∀ j : Nat, j ≠ 26 → j ≠ 28 → j ≠ 29 → w j = w j := fun j _ _ _ => rfl
  refine lv_aload_n hx hb dX5_restore_0 rfl (lv_at hl 0 rfl) ?_
  refine lv_aload_n hx hb dX5_restore_1 rfl (lv_at hl 0 rfl) ?_
  refine kl_get (C := RX5) (T := TX5) (N := 31) (ci := 5) hx hb hts hinX5 hown hK hP q26 rfl 7 (by decide) (hts (.fieldLink RX5 130 "KinLedgerModel" "oldRows" "I") (by decide +kernel)) (fun _ h9 => h9) rfl dX5_restore_2 ?_
  refine kl_put (C := RX5) (T := TX5) (N := 31) (ci := 5) (v := .int (nI on)) (ty := .int) hx hb hts hinX5 tyX5 tyX5_ok nmX5 hown hK hP q26 rfl 4 (by decide) (hts (.fieldLink RX5 82 "KinLedgerModel" "rows" "I") (by decide +kernel)) (fun _ h9 => h9) rfl (by decide +kernel) rfl rfl (Nat.le_of_ble_eq_true rfl) dX5_restore_5 (fun w1 H locs f2 fr3 hzw1 hP => ?_)
  have f2 : w1 26 = some (.inr (5, [.int ec, .int rs, .int (nI nT), .ref (B + 27), .int (nI on), .ref (B + 28), .ref (B + 29), .int (nI on), .ref (B + 30), .ref (B + 31), .ref (B + 32), .int (nI nL), .ref (B + 33), .ref (B + 34), .ref (B + 35), .ref (B + 36), .int (nI nS), .ref (B + 37), .ref (B + 38), .int (nI nC), .ref (B + 39), .ref (B + 40), .ref (B + 41), .int (nI nW), .ref (B + 42), .int hi, .ref (B + 43), .int (nI nM), .ref (B + 44), .ref (B + 45), .ref (B + 46)])) := f2
  have q28 : w1 28 = some (kl_aI G 24 O) := (fr3 _ (by decide)).trans q28
  have q29 : w1 29 = some (kl_aI G 96 D) := (fr3 _ (by decide)).trans q29
  have q30 : w1 30 = some (kl_aI G 24 oO) := (fr3 _ (by decide)).trans q30
  have q31 : w1 31 = some (kl_aI G 96 oD) := (fr3 _ (by decide)).trans q31
  have frm : ∀ j : Nat, j ≠ 26 → j ≠ 28 → j ≠ 29 → w1 j = w j := fun j k0 k1 k2 => (fr3 j k0).trans (frm j k0 k1 k2)
  refine lv_iconst (v := nI 0) hx hb dX5_restore_8 (by decide) ?_
  refine lv_istore_n (lv' := [(1, .int (nI 0)), (0, .ref (B + 26))]) hx hb dX5_restore_9 rfl hl (by decide) rfl (fun ls hl => ?_)
  have lp10 : ∀ (n10 : Nat) (r9 : Nat) (o2 : Nat → Int32), on - r9 < n10 → (r9 ≤ on) → (∀ q, q < r9 → o2 q = oO q) → ∀ (w1 : kl_M) (H : Heap) (locs : List Loc), w1 26 = some (.inr (5, [.int ec, .int rs, .int (nI nT), .ref (B + 27), .int (nI on), .ref (B + 28), .ref (B + 29), .int (nI on), .ref (B + 30), .ref (B + 31), .ref (B + 32), .int (nI nL), .ref (B + 33), .ref (B + 34), .ref (B + 35), .ref (B + 36), .int (nI nS), .ref (B + 37), .ref (B + 38), .int (nI nC), .ref (B + 39), .ref (B + 40), .ref (B + 41), .int (nI nW), .ref (B + 42), .int hi, .ref (B + 43), .int (nI nM), .ref (B + 44), .ref (B + 45), .ref (B + 46)])) → w1 28 = some (kl_aI G 24 o2) → w1 29 = some (kl_aI G 96 D) → w1 30 = some (kl_aI G 24 oO) → w1 31 = some (kl_aI G 96 oD) → (∀ j : Nat, j ≠ 26 → j ≠ 28 → j ≠ 29 → w1 j = w j) → kl_S G B w1 s.heap H locs → ∀ ls : Array Slot, lv_has ls 2 [(0, .ref (B + 26)), (1, .int (nI r9))] → W pg l e rm_X5_restore s m ([.ref (B + 26)] : List Value).toArray below meth cd H locs (0) (0) (MQ below (kl_Qv G B (fun w1 => w1 26 = some (.inr (5, [.int ec, .int rs, .int (nI nT), .ref (B + 27), .int (nI on), .ref (B + 28), .ref (B + 29), .int (nI on), .ref (B + 30), .ref (B + 31), .ref (B + 32), .int (nI nL), .ref (B + 33), .ref (B + 34), .ref (B + 35), .ref (B + 36), .int (nI nS), .ref (B + 37), .ref (B + 38), .int (nI nC), .ref (B + 39), .ref (B + 40), .ref (B + 41), .int (nI nW), .ref (B + 42), .int hi, .ref (B + 43), .int (nI nM), .ref (B + 44), .ref (B + 45), .ref (B + 46)])) ∧ (∃ O2 D2, w1 28 = some (kl_aI G 24 O2) ∧ w1 29 = some (kl_aI G 96 D2) ∧ (∀ q, q < on → O2 q = oO q) ∧ ∀ q, q < 4 * on → D2 q = oD q) ∧ ∀ j : Nat, j ≠ 26 → j ≠ 28 → j ≠ 29 → w1 j = w j)) ([.ref (B + 26)] : List Value).toArray s 0 0 (kl_fr B)) (F0 m 10 ls []) := by
    intro n10
    induction n10 with
    | zero => intro r9 o2 hm; exact absurd hm (Nat.not_lt_zero _)
    | succ n10 ih10 =>
      intro r9 o2 hm hr9 ho w1 H locs f2 q28 q29 q30 q31 frm hP ls hl
      refine lv_iload_n hx hb dX5_restore_10 rfl (lv_at hl 1 rfl) ?_
      refine lv_aload_n hx hb dX5_restore_11 rfl (lv_at hl 0 rfl) ?_
      refine kl_get (C := RX5) (T := TX5) (N := 31) (ci := 5) hx hb hts hinX5 hown hK hP f2 rfl 4 (by decide) (hts (.fieldLink RX5 82 "KinLedgerModel" "rows" "I") (by decide +kernel)) (fun _ h9 => h9) rfl dX5_restore_12 ?_
      refine kl_ge (tgt := 36) hx hb (by omega) (by omega) dX5_restore_15 (by decide) (fun c15 => ?_) (fun c15 => ?_)
      · refine lv_iconst (v := nI 0) hx hb dX5_restore_36 (by decide) ?_
        refine lv_istore_n (lv' := [(1, .int (nI 0)), (0, .ref (B + 26))]) hx hb dX5_restore_37 rfl hl (by decide) rfl (fun ls hl => ?_)
        have lp38 : ∀ (n38 : Nat) (k9 : Nat) (d2 : Nat → Int32), 4 * on - k9 < n38 → (k9 ≤ 4 * on) → (∀ q, q < k9 → d2 q = oD q) → ∀ (w1 : kl_M) (H : Heap) (locs : List Loc), w1 26 = some (.inr (5, [.int ec, .int rs, .int (nI nT), .ref (B + 27), .int (nI on), .ref (B + 28), .ref (B + 29), .int (nI on), .ref (B + 30), .ref (B + 31), .ref (B + 32), .int (nI nL), .ref (B + 33), .ref (B + 34), .ref (B + 35), .ref (B + 36), .int (nI nS), .ref (B + 37), .ref (B + 38), .int (nI nC), .ref (B + 39), .ref (B + 40), .ref (B + 41), .int (nI nW), .ref (B + 42), .int hi, .ref (B + 43), .int (nI nM), .ref (B + 44), .ref (B + 45), .ref (B + 46)])) → w1 28 = some (kl_aI G 24 o2) → w1 29 = some (kl_aI G 96 d2) → w1 30 = some (kl_aI G 24 oO) → w1 31 = some (kl_aI G 96 oD) → (∀ j : Nat, j ≠ 26 → j ≠ 28 → j ≠ 29 → w1 j = w j) → kl_S G B w1 s.heap H locs → ∀ ls : Array Slot, lv_has ls 2 [(0, .ref (B + 26)), (1, .int (nI k9))] → W pg l e rm_X5_restore s m ([.ref (B + 26)] : List Value).toArray below meth cd H locs (0) (0) (MQ below (kl_Qv G B (fun w1 => w1 26 = some (.inr (5, [.int ec, .int rs, .int (nI nT), .ref (B + 27), .int (nI on), .ref (B + 28), .ref (B + 29), .int (nI on), .ref (B + 30), .ref (B + 31), .ref (B + 32), .int (nI nL), .ref (B + 33), .ref (B + 34), .ref (B + 35), .ref (B + 36), .int (nI nS), .ref (B + 37), .ref (B + 38), .int (nI nC), .ref (B + 39), .ref (B + 40), .ref (B + 41), .int (nI nW), .ref (B + 42), .int hi, .ref (B + 43), .int (nI nM), .ref (B + 44), .ref (B + 45), .ref (B + 46)])) ∧ (∃ O2 D2, w1 28 = some (kl_aI G 24 O2) ∧ w1 29 = some (kl_aI G 96 D2) ∧ (∀ q, q < on → O2 q = oO q) ∧ ∀ q, q < 4 * on → D2 q = oD q) ∧ ∀ j : Nat, j ≠ 26 → j ≠ 28 → j ≠ 29 → w1 j = w j)) ([.ref (B + 26)] : List Value).toArray s 0 0 (kl_fr B)) (F0 m 38 ls []) := by
          intro n38
          induction n38 with
          | zero => intro k9 d2 hm; exact absurd hm (Nat.not_lt_zero _)
          | succ n38 ih38 =>
            intro k9 d2 hm hk9 hd w1 H locs f2 q28 q29 q30 q31 frm hP ls hl
            refine lv_iload_n hx hb dX5_restore_38 rfl (lv_at hl 1 rfl) ?_
            refine lv_iconst (v := nI 4) hx hb dX5_restore_39 (by decide) ?_
            refine lv_aload_n hx hb dX5_restore_40 rfl (lv_at hl 0 rfl) ?_
            refine kl_get (C := RX5) (T := TX5) (N := 31) (ci := 5) hx hb hts hinX5 hown hK hP f2 rfl 4 (by decide) (hts (.fieldLink RX5 82 "KinLedgerModel" "rows" "I") (by decide +kernel)) (fun _ h9 => h9) rfl dX5_restore_41 ?_
            refine lv_imul hx hb dX5_restore_44 ?_
            refine kl_top (z := nI (4 * on)) (pk_mul _ _) ?_
            refine kl_ge (tgt := 66) hx hb (by omega) (by omega) dX5_restore_45 (by decide) (fun c45 => ?_) (fun c45 => ?_)
            · exact kl_vret hx hb hr hlocks hP ⟨f2, ⟨_, _, q28, q29, fun q hq => ho q (by omega), fun q hq => hd q (by omega)⟩, frm⟩ dX5_restore_66
            · refine lv_aload_n hx hb dX5_restore_48 rfl (lv_at hl 0 rfl) ?_
              refine kl_get (C := RX5) (T := TX5) (N := 31) (ci := 5) hx hb hts hinX5 hown hK hP f2 rfl 6 (by decide) (hts (.fieldLink RX5 16 "KinLedgerModel" "cells" "[I") (by decide +kernel)) (fun _ h9 => h9) rfl dX5_restore_49 ?_
              refine lv_iload_n hx hb dX5_restore_52 rfl (lv_at hl 1 rfl) ?_
              refine lv_aload_n hx hb dX5_restore_53 rfl (lv_at hl 0 rfl) ?_
              refine kl_get (C := RX5) (T := TX5) (N := 31) (ci := 5) hx hb hts hinX5 hown hK hP f2 rfl 9 (by decide) (hts (.fieldLink RX5 22 "KinLedgerModel" "old" "[I") (by decide +kernel)) (fun _ h9 => h9) rfl dX5_restore_54 ?_
              refine lv_iload_n hx hb dX5_restore_57 rfl (lv_at hl 1 rfl) ?_
              refine kl_iald hx hb hK hP q31 (by omega) (by omega) dX5_restore_58 ?_
              refine kl_iast hx hb hK hP q29 (by omega) (by omega) dX5_restore_59 (fun w4 H locs f5 fr6 hzw4 hP => ?_)
              have f2 : w4 26 = some (.inr (5, [.int ec, .int rs, .int (nI nT), .ref (B + 27), .int (nI on), .ref (B + 28), .ref (B + 29), .int (nI on), .ref (B + 30), .ref (B + 31), .ref (B + 32), .int (nI nL), .ref (B + 33), .ref (B + 34), .ref (B + 35), .ref (B + 36), .int (nI nS), .ref (B + 37), .ref (B + 38), .int (nI nC), .ref (B + 39), .ref (B + 40), .ref (B + 41), .int (nI nW), .ref (B + 42), .int hi, .ref (B + 43), .int (nI nM), .ref (B + 44), .ref (B + 45), .ref (B + 46)])) := (fr6 _ (by decide)).trans f2
              have q28 : w4 28 = some (kl_aI G 24 o2) := (fr6 _ (by decide)).trans q28
              have q30 : w4 30 = some (kl_aI G 24 oO) := (fr6 _ (by decide)).trans q30
              have q31 : w4 31 = some (kl_aI G 96 oD) := (fr6 _ (by decide)).trans q31
              have frm : ∀ j : Nat, j ≠ 26 → j ≠ 28 → j ≠ 29 → w4 j = w j := fun j k0 k1 k2 => (fr6 j k2).trans (frm j k0 k1 k2)
              refine lv_iinc (v := nI (k9 + 1)) (lv' := [(1, .int (nI (k9 + 1))), (0, .ref (B + 26))]) hx hb dX5_restore_60 hl (k := 1) rfl (nI_1 _) (by decide) rfl (fun ls hl => ?_)
              refine lv_goto (tgt := 38) hx hb dX5_restore_63 (by decide) ?_
              exact ih38 (k9 + 1) (upd d2 k9 (oD k9)) (by omega) (by first | omega | grind) (mt_upd_sp (Sp := fun q v => v = oD q) hd rfl) _ _ _ f2 q28 f5 q30 q31 frm hP ls (lv_sub hl [1, 0] rfl)
        exact lp38 ((4 * on) + 1) 0 D (Nat.lt_succ_of_le (by omega)) (by first | omega | grind) lt_0 _ _ _ f2 q28 q29 q30 q31 frm hP ls (lv_sub hl [1, 0] rfl)
      · refine lv_aload_n hx hb dX5_restore_18 rfl (lv_at hl 0 rfl) ?_
        refine kl_get (C := RX5) (T := TX5) (N := 31) (ci := 5) hx hb hts hinX5 hown hK hP f2 rfl 5 (by decide) (hts (.fieldLink RX5 13 "KinLedgerModel" "of" "[I") (by decide +kernel)) (fun _ h9 => h9) rfl dX5_restore_19 ?_
        refine lv_iload_n hx hb dX5_restore_22 rfl (lv_at hl 1 rfl) ?_
        refine lv_aload_n hx hb dX5_restore_23 rfl (lv_at hl 0 rfl) ?_
        refine kl_get (C := RX5) (T := TX5) (N := 31) (ci := 5) hx hb hts hinX5 hown hK hP f2 rfl 8 (by decide) (hts (.fieldLink RX5 19 "KinLedgerModel" "oldOf" "[I") (by decide +kernel)) (fun _ h9 => h9) rfl dX5_restore_24 ?_
        refine lv_iload_n hx hb dX5_restore_27 rfl (lv_at hl 1 rfl) ?_
        refine kl_iald hx hb hK hP q30 (by omega) (by omega) dX5_restore_28 ?_
        refine kl_iast hx hb hK hP q28 (by omega) (by omega) dX5_restore_29 (fun w7 H locs f8 fr9 hzw7 hP => ?_)
        have f2 : w7 26 = some (.inr (5, [.int ec, .int rs, .int (nI nT), .ref (B + 27), .int (nI on), .ref (B + 28), .ref (B + 29), .int (nI on), .ref (B + 30), .ref (B + 31), .ref (B + 32), .int (nI nL), .ref (B + 33), .ref (B + 34), .ref (B + 35), .ref (B + 36), .int (nI nS), .ref (B + 37), .ref (B + 38), .int (nI nC), .ref (B + 39), .ref (B + 40), .ref (B + 41), .int (nI nW), .ref (B + 42), .int hi, .ref (B + 43), .int (nI nM), .ref (B + 44), .ref (B + 45), .ref (B + 46)])) := (fr9 _ (by decide)).trans f2
        have q29 : w7 29 = some (kl_aI G 96 D) := (fr9 _ (by decide)).trans q29
        have q30 : w7 30 = some (kl_aI G 24 oO) := (fr9 _ (by decide)).trans q30
        have q31 : w7 31 = some (kl_aI G 96 oD) := (fr9 _ (by decide)).trans q31
        have frm : ∀ j : Nat, j ≠ 26 → j ≠ 28 → j ≠ 29 → w7 j = w j := fun j k0 k1 k2 => (fr9 j k1).trans (frm j k0 k1 k2)
        refine lv_iinc (v := nI (r9 + 1)) (lv' := [(1, .int (nI (r9 + 1))), (0, .ref (B + 26))]) hx hb dX5_restore_30 hl (k := 1) rfl (nI_1 _) (by decide) rfl (fun ls hl => ?_)
        refine lv_goto (tgt := 10) hx hb dX5_restore_33 (by decide) ?_
        exact ih10 (r9 + 1) (upd o2 r9 (oO r9)) (by omega) (by first | omega | grind) (mt_upd_sp (Sp := fun q v => v = oO q) ho rfl) _ _ _ f2 f8 q29 q30 q31 frm hP ls (lv_sub hl [1, 0] rfl)
  exact lp10 (on + 1) 0 O (Nat.lt_succ_of_le (by omega)) (by first | omega | grind) lt_0 _ _ _ f2 q28 q29 q30 q31 frm hP ls (lv_sub hl [1, 0] rfl)

abbrev rm_X5_settle : Room := { frames := 4, cells := 0, slots := 0, locals := 90 }
set_option maxHeartbeats 4000000 in
set_option maxRecDepth 100000 in
theorem c_X5_settle (l : Launch) (G : kl_G) (B : Nat) (w : kl_M) {nT nL nS nC nW nM n on : Nat} {ec rs hi : Int32} {O D oO oD pl : Nat → Int32} {lch : Nat → Int32} {lco : Nat → Nat} {lpa lwy stb : Nat → Int32} {sco : Nat → Nat} {ctb : Nat → Int32} {cln cw : Nat → Nat} (ccol : Nat → Nat) (y c9 : Nat) (q26 : w 26 = some (.inr (5, [.int ec, .int rs, .int (nI nT), .ref (B + 27), .int (nI n), .ref (B + 28), .ref (B + 29), .int (nI on), .ref (B + 30), .ref (B + 31), .ref (B + 32), .int (nI nL), .ref (B + 33), .ref (B + 34), .ref (B + 35), .ref (B + 36), .int (nI nS), .ref (B + 37), .ref (B + 38), .int (nI nC), .ref (B + 39), .ref (B + 40), .ref (B + 41), .int (nI nW), .ref (B + 42), .int hi, .ref (B + 43), .int (nI nM), .ref (B + 44), .ref (B + 45), .ref (B + 46)]))) (q28 : w 28 = some (kl_aI G 24 O)) (q29 : w 29 = some (kl_aI G 96 D)) (q30 : w 30 = some (kl_aI G 24 oO)) (q31 : w 31 = some (kl_aI G 96 oD)) (q33 : w 33 = some (kl_aI G 7 lch)) (q34 : w 34 = some (kl_aI G 7 ((fun t => nI (lco t))))) (q35 : w 35 = some (kl_aI G 7 lpa)) (q36 : w 36 = some (kl_aI G 7 lwy)) (q37 : w 37 = some (kl_aI G 5 stb)) (q38 : w 38 = some (kl_aI G 5 ((fun t => nI (sco t))))) (q39 : w 39 = some (kl_aI G 5 ctb)) (q40 : w 40 = some (kl_aI G 5 ((fun t => nI (cln t))))) (q41 : w 41 = some (kl_aI G 50 ((fun t => nI (cw t))))) (q43 : w 43 = some (kl_aI G 12 pl)) (hmn : nT ≤ 4 ∧ nL ≤ 6 ∧ nS ≤ 4 ∧ nC ≤ 4 ∧ n ≤ 24) (hrp : (md_RP nL lch lco lpa lwy nS stb sco nC ctb cln cw ccol)) (hon : on ≤ 24) (hy : y < 2 ^ 20) (hc9 : c9 < 2 ^ 20) : Met l yX5_settle wsX5_settle rm_X5_settle (kl_Pc G B w [.ref (B + 26), .int (nI y), .int (nI c9)]) (kl_Qi G B (fun r w1 => (md_sw y (mt_why (md_T n O) D nT nS stb sco nL lch lco lpa nC ctb (fun j i => cw (10 * j + i)) cln) (nI 0) ∧ r = nI 0 ∧ (∃ h2, w1 26 = some (.inr (5, [.int ec, .int rs, .int (nI nT), .ref (B + 27), .int (nI n), .ref (B + 28), .ref (B + 29), .int (nI on), .ref (B + 30), .ref (B + 31), .ref (B + 32), .int (nI nL), .ref (B + 33), .ref (B + 34), .ref (B + 35), .ref (B + 36), .int (nI nS), .ref (B + 37), .ref (B + 38), .int (nI nC), .ref (B + 39), .ref (B + 40), .ref (B + 41), .int (nI nW), .ref (B + 42), .int h2, .ref (B + 43), .int (nI nM), .ref (B + 44), .ref (B + 45), .ref (B + 46)]))) ∧ w1 28 = some (kl_aI G 24 O) ∧ w1 29 = some (kl_aI G 96 D) ∧ (∃ pl2, w1 43 = some (kl_aI G 12 pl2)) ∧ ∀ j : Nat, j ≠ 26 → j ≠ 28 → j ≠ 29 → j ≠ 43 → w1 j = w j) ∨ (∃ y2, y2 ≠ 0 ∧ md_sw y (mt_why (md_T n O) D nT nS stb sco nL lch lco lpa nC ctb (fun j i => cw (10 * j + i)) cln) y2 ∧ r = nI c9 ∧ (∃ h2, w1 26 = some (.inr (5, [.int ec, .int y2, .int (nI nT), .ref (B + 27), .int (nI on), .ref (B + 28), .ref (B + 29), .int (nI on), .ref (B + 30), .ref (B + 31), .ref (B + 32), .int (nI nL), .ref (B + 33), .ref (B + 34), .ref (B + 35), .ref (B + 36), .int (nI nS), .ref (B + 37), .ref (B + 38), .int (nI nC), .ref (B + 39), .ref (B + 40), .ref (B + 41), .int (nI nW), .ref (B + 42), .int h2, .ref (B + 43), .int (nI nM), .ref (B + 44), .ref (B + 45), .ref (B + 46)]))) ∧ (∃ O2 D2, w1 28 = some (kl_aI G 24 O2) ∧ w1 29 = some (kl_aI G 96 D2) ∧ (∀ q, q < on → O2 q = oO q) ∧ ∀ q, q < 4 * on → D2 q = oD q) ∧ (∃ pl2, w1 43 = some (kl_aI G 12 pl2)) ∧ ∀ j : Nat, j ≠ 26 → j ≠ 28 → j ≠ 29 → j ≠ 43 → w1 j = w j))) 0 0 (kl_fr B) := by
  refine Met.ofW (cc := cX5_settle) (maxL := 4) (ret := (some .int)) (by decide) rfl ?_
  intro pg e s m args below meth cd s₁ Bd hml hv
  obtain ⟨rfl, hP0, hK⟩ := hv
  have hx := Bd.exec
  have hb := Bd.bytes
  have hr := Bd.returns
  have hts := atoms_spec (ws := wsX5_settle) Bd.pre
  have hown : s.vm.findClass RX5 = some m.cls := findClass_of_methodNamed Bd.named
  have hlocks := Bd.notSynchronized
  have hinX5 : ∀ w ∈ u_ws RX5 TX5 31, w ∈ wsX5_settle := by decide +kernel
  have hP := kl_S.rf hP0
  have hl := lv_entry ([.ref (B + 26), .int (nI y), .int (nI c9)]) (n := 4) (Nat.le_of_ble_eq_true rfl)
  rw [lg_entry_eq]
  generalize (lg_sl ([.ref (B + 26), .int (nI y), .int (nI c9)]) ++ List.replicate (4 - (lg_sl ([.ref (B + 26), .int (nI y), .int (nI c9)])).length) Slot.unset).toArray = ls at hl ⊢
  have hl : lv_has ls 4 [(0, .ref (B + 26)), (1, .int (nI y)), (2, .int (nI c9))] := hl
  have frm : ∀ j : Nat, j ≠ 26 → j ≠ 28 → j ≠ 29 → j ≠ 43 → w j = w j := fun j _ _ _ _ => rfl
  obtain ⟨m1, m2, m3, m4, m5⟩ := hmn
  refine lv_iload_n hx hb dX5_settle_0 rfl (lv_at hl 1 rfl) ?_
  refine kl_z_le (tgt := 8) hx hb (by omega) dX5_settle_1 (by decide) (fun c1 => ?_) (fun c1 => ?_)
  · refine lv_aload_n hx hb dX5_settle_8 rfl (lv_at hl 0 rfl) ?_
    refine kl_cVi (C := RX5) (i := 26) (As := []) (rest := []) ⟨hx, hb, hml, hown, hts⟩ (c_X5_wrong l G B _ ccol q26 q28 q29 q33 q34 q35 q36 q37 q38 q39 q40 q41 q43 ⟨by omega, by omega, by omega, by omega, by omega⟩ hrp) (cwV 0 hts gX5_settle_X5_wrong rfl rfl rfl (by decide +kernel) ⟨Nat.le_of_ble_eq_true rfl, Nat.le_of_ble_eq_true rfl⟩) hK hP q26 rfl rfl hl.1 rfl (Nat.le_of_ble_eq_true rfl) dX5_settle_9 ⟨Nat.le_of_ble_eq_true rfl, Nat.le_of_ble_eq_true rfl⟩ (fun r3 w1 H locs q2 hP => ?_)
    obtain ⟨hwhy, ⟨hi4, f5⟩, ⟨pl6, f7⟩, fr8⟩ := q2
    have q28 : w1 28 = some (kl_aI G 24 O) := (fr8 _ (by decide) (by decide)).trans q28
    have q29 : w1 29 = some (kl_aI G 96 D) := (fr8 _ (by decide) (by decide)).trans q29
    have q30 : w1 30 = some (kl_aI G 24 oO) := (fr8 _ (by decide) (by decide)).trans q30
    have q31 : w1 31 = some (kl_aI G 96 oD) := (fr8 _ (by decide) (by decide)).trans q31
    have q33 : w1 33 = some (kl_aI G 7 lch) := (fr8 _ (by decide) (by decide)).trans q33
    have q34 : w1 34 = some (kl_aI G 7 ((fun t => nI (lco t)))) := (fr8 _ (by decide) (by decide)).trans q34
    have q35 : w1 35 = some (kl_aI G 7 lpa) := (fr8 _ (by decide) (by decide)).trans q35
    have q36 : w1 36 = some (kl_aI G 7 lwy) := (fr8 _ (by decide) (by decide)).trans q36
    have q37 : w1 37 = some (kl_aI G 5 stb) := (fr8 _ (by decide) (by decide)).trans q37
    have q38 : w1 38 = some (kl_aI G 5 ((fun t => nI (sco t)))) := (fr8 _ (by decide) (by decide)).trans q38
    have q39 : w1 39 = some (kl_aI G 5 ctb) := (fr8 _ (by decide) (by decide)).trans q39
    have q40 : w1 40 = some (kl_aI G 5 ((fun t => nI (cln t)))) := (fr8 _ (by decide) (by decide)).trans q40
    have q41 : w1 41 = some (kl_aI G 50 ((fun t => nI (cw t)))) := (fr8 _ (by decide) (by decide)).trans q41
    have f5 : w1 26 = some (.inr (5, [.int ec, .int rs, .int (nI nT), .ref (B + 27), .int (nI n), .ref (B + 28), .ref (B + 29), .int (nI on), .ref (B + 30), .ref (B + 31), .ref (B + 32), .int (nI nL), .ref (B + 33), .ref (B + 34), .ref (B + 35), .ref (B + 36), .int (nI nS), .ref (B + 37), .ref (B + 38), .int (nI nC), .ref (B + 39), .ref (B + 40), .ref (B + 41), .int (nI nW), .ref (B + 42), .int hi4, .ref (B + 43), .int (nI nM), .ref (B + 44), .ref (B + 45), .ref (B + 46)])) := f5
    have f7 : w1 43 = some (kl_aI G 12 pl6) := f7
    have frm : ∀ j : Nat, j ≠ 26 → j ≠ 28 → j ≠ 29 → j ≠ 43 → w1 j = w j := fun j k0 k1 k2 k3 => (fr8 j k0 k3).trans (frm j k0 k1 k2 k3)
    refine lv_istore_n (lv' := [(3, .int r3), (0, .ref (B + 26)), (1, .int (nI y)), (2, .int (nI c9))]) hx hb dX5_settle_12 rfl hl (by decide) rfl (fun ls hl => ?_)
    refine lv_iload_n hx hb dX5_settle_13 rfl (lv_at hl 0 rfl) ?_
    refine lv_if_ne (tgt := 19) hx hb dX5_settle_14 (by decide) (fun c14 => ?_) (fun c14 => ?_)
    · refine lv_aload_n hx hb dX5_settle_19 rfl (lv_at hl 1 rfl) ?_
      refine kl_cVv (C := RX5) (i := 26) (As := []) (rest := []) ⟨hx, hb, hml, hown, hts⟩ (c_X5_restore l G B _ f5 q28 q29 q30 q31 (by omega)) (cwV 0 hts gX5_settle_X5_restore rfl rfl rfl (by decide +kernel) ⟨Nat.le_of_ble_eq_true rfl, Nat.le_of_ble_eq_true rfl⟩) hK hP f5 rfl rfl hl.1 rfl (Nat.le_of_ble_eq_true rfl) dX5_settle_20 ⟨Nat.le_of_ble_eq_true rfl, Nat.le_of_ble_eq_true rfl⟩ (fun w9 H locs q10 hP => ?_)
      obtain ⟨f12, ⟨O2, D2, f13, f14, hO2, hD2⟩, fr15⟩ := q10
      have q30 : w9 30 = some (kl_aI G 24 oO) := (fr15 _ (by decide) (by decide) (by decide)).trans q30
      have q31 : w9 31 = some (kl_aI G 96 oD) := (fr15 _ (by decide) (by decide) (by decide)).trans q31
      have q33 : w9 33 = some (kl_aI G 7 lch) := (fr15 _ (by decide) (by decide) (by decide)).trans q33
      have q34 : w9 34 = some (kl_aI G 7 ((fun t => nI (lco t)))) := (fr15 _ (by decide) (by decide) (by decide)).trans q34
      have q35 : w9 35 = some (kl_aI G 7 lpa) := (fr15 _ (by decide) (by decide) (by decide)).trans q35
      have q36 : w9 36 = some (kl_aI G 7 lwy) := (fr15 _ (by decide) (by decide) (by decide)).trans q36
      have q37 : w9 37 = some (kl_aI G 5 stb) := (fr15 _ (by decide) (by decide) (by decide)).trans q37
      have q38 : w9 38 = some (kl_aI G 5 ((fun t => nI (sco t)))) := (fr15 _ (by decide) (by decide) (by decide)).trans q38
      have q39 : w9 39 = some (kl_aI G 5 ctb) := (fr15 _ (by decide) (by decide) (by decide)).trans q39
      have q40 : w9 40 = some (kl_aI G 5 ((fun t => nI (cln t)))) := (fr15 _ (by decide) (by decide) (by decide)).trans q40
      have q41 : w9 41 = some (kl_aI G 50 ((fun t => nI (cw t)))) := (fr15 _ (by decide) (by decide) (by decide)).trans q41
      have f7 : w9 43 = some (kl_aI G 12 pl6) := (fr15 _ (by decide) (by decide) (by decide)).trans f7
      have f12 : w9 26 = some (.inr (5, [.int ec, .int rs, .int (nI nT), .ref (B + 27), .int (nI on), .ref (B + 28), .ref (B + 29), .int (nI on), .ref (B + 30), .ref (B + 31), .ref (B + 32), .int (nI nL), .ref (B + 33), .ref (B + 34), .ref (B + 35), .ref (B + 36), .int (nI nS), .ref (B + 37), .ref (B + 38), .int (nI nC), .ref (B + 39), .ref (B + 40), .ref (B + 41), .int (nI nW), .ref (B + 42), .int hi4, .ref (B + 43), .int (nI nM), .ref (B + 44), .ref (B + 45), .ref (B + 46)])) := f12
      have f13 : w9 28 = some (kl_aI G 24 O2) := f13
      have f14 : w9 29 = some (kl_aI G 96 D2) := f14
      have frm : ∀ j : Nat, j ≠ 26 → j ≠ 28 → j ≠ 29 → j ≠ 43 → w9 j = w j := fun j k0 k1 k2 k3 => (fr15 j k0 k1 k2).trans (frm j k0 k1 k2 k3)
      refine lv_aload_n hx hb dX5_settle_23 rfl (lv_at hl 1 rfl) ?_
      refine lv_iload_n hx hb dX5_settle_24 rfl (lv_at hl 0 rfl) ?_
      refine kl_put (C := RX5) (T := TX5) (N := 31) (ci := 5) (v := .int r3) (ty := .int) hx hb hts hinX5 tyX5 tyX5_ok nmX5 hown hK hP f12 rfl 1 (by decide) (hts (.fieldLink RX5 121 "KinLedgerModel" "reason" "I") (by decide +kernel)) (fun _ h9 => h9) rfl (by decide +kernel) rfl rfl (Nat.le_of_ble_eq_true rfl) dX5_settle_25 (fun w16 H locs f17 fr18 hzw16 hP => ?_)
      have f17 : w16 26 = some (.inr (5, [.int ec, .int r3, .int (nI nT), .ref (B + 27), .int (nI on), .ref (B + 28), .ref (B + 29), .int (nI on), .ref (B + 30), .ref (B + 31), .ref (B + 32), .int (nI nL), .ref (B + 33), .ref (B + 34), .ref (B + 35), .ref (B + 36), .int (nI nS), .ref (B + 37), .ref (B + 38), .int (nI nC), .ref (B + 39), .ref (B + 40), .ref (B + 41), .int (nI nW), .ref (B + 42), .int hi4, .ref (B + 43), .int (nI nM), .ref (B + 44), .ref (B + 45), .ref (B + 46)])) := f17
      have f13 : w16 28 = some (kl_aI G 24 O2) := (fr18 _ (by decide)).trans f13
      have f14 : w16 29 = some (kl_aI G 96 D2) := (fr18 _ (by decide)).trans f14
      have q30 : w16 30 = some (kl_aI G 24 oO) := (fr18 _ (by decide)).trans q30
      have q31 : w16 31 = some (kl_aI G 96 oD) := (fr18 _ (by decide)).trans q31
      have q33 : w16 33 = some (kl_aI G 7 lch) := (fr18 _ (by decide)).trans q33
      have q34 : w16 34 = some (kl_aI G 7 ((fun t => nI (lco t)))) := (fr18 _ (by decide)).trans q34
      have q35 : w16 35 = some (kl_aI G 7 lpa) := (fr18 _ (by decide)).trans q35
      have q36 : w16 36 = some (kl_aI G 7 lwy) := (fr18 _ (by decide)).trans q36
      have q37 : w16 37 = some (kl_aI G 5 stb) := (fr18 _ (by decide)).trans q37
      have q38 : w16 38 = some (kl_aI G 5 ((fun t => nI (sco t)))) := (fr18 _ (by decide)).trans q38
      have q39 : w16 39 = some (kl_aI G 5 ctb) := (fr18 _ (by decide)).trans q39
      have q40 : w16 40 = some (kl_aI G 5 ((fun t => nI (cln t)))) := (fr18 _ (by decide)).trans q40
      have q41 : w16 41 = some (kl_aI G 50 ((fun t => nI (cw t)))) := (fr18 _ (by decide)).trans q41
      have f7 : w16 43 = some (kl_aI G 12 pl6) := (fr18 _ (by decide)).trans f7
      have frm : ∀ j : Nat, j ≠ 26 → j ≠ 28 → j ≠ 29 → j ≠ 43 → w16 j = w j := fun j k0 k1 k2 k3 => (fr18 j k0).trans (frm j k0 k1 k2 k3)
      refine lv_iload_n hx hb dX5_settle_28 rfl (lv_at hl 3 rfl) ?_
      exact kl_iret hx hb hr hlocks hP (Or.inr ⟨_, c14, Or.inr ⟨c1, hwhy⟩, rfl, ⟨_, f17⟩, ⟨O2, D2, f13, f14, hO2, hD2⟩, ⟨_, f7⟩, frm⟩) dX5_settle_29
    · refine lv_iconst (v := nI 0) hx hb dX5_settle_17 (by decide) ?_
      exact kl_iret hx hb hr hlocks hP (Or.inl ⟨Or.inr ⟨c1, (c14.trans nI_0.symm) ▸ hwhy⟩, rfl, ⟨_, f5⟩, q28, q29, ⟨_, f7⟩, frm⟩) dX5_settle_18
  · refine lv_iload_n hx hb dX5_settle_4 rfl (lv_at hl 1 rfl) ?_
    refine lv_goto (tgt := 12) hx hb dX5_settle_5 (by decide) ?_
    refine lv_istore_n (lv' := [(3, .int (nI y)), (0, .ref (B + 26)), (1, .int (nI y)), (2, .int (nI c9))]) hx hb dX5_settle_12 rfl hl (by decide) rfl (fun ls hl => ?_)
    refine lv_iload_n hx hb dX5_settle_13 rfl (lv_at hl 0 rfl) ?_
    refine kl_z_ne (tgt := 19) hx hb (by omega) dX5_settle_14 (by decide) (fun c14 => ?_) (fun c14 => absurd c14 (by omega))
    refine lv_aload_n hx hb dX5_settle_19 rfl (lv_at hl 1 rfl) ?_
    refine kl_cVv (C := RX5) (i := 26) (As := []) (rest := []) ⟨hx, hb, hml, hown, hts⟩ (c_X5_restore l G B _ q26 q28 q29 q30 q31 (by omega)) (cwV 0 hts gX5_settle_X5_restore rfl rfl rfl (by decide +kernel) ⟨Nat.le_of_ble_eq_true rfl, Nat.le_of_ble_eq_true rfl⟩) hK hP q26 rfl rfl hl.1 rfl (Nat.le_of_ble_eq_true rfl) dX5_settle_20 ⟨Nat.le_of_ble_eq_true rfl, Nat.le_of_ble_eq_true rfl⟩ (fun w19 H locs q20 hP => ?_)
    obtain ⟨f22, ⟨O2, D2, f23, f24, hO2, hD2⟩, fr25⟩ := q20
    have q30 : w19 30 = some (kl_aI G 24 oO) := (fr25 _ (by decide) (by decide) (by decide)).trans q30
    have q31 : w19 31 = some (kl_aI G 96 oD) := (fr25 _ (by decide) (by decide) (by decide)).trans q31
    have q33 : w19 33 = some (kl_aI G 7 lch) := (fr25 _ (by decide) (by decide) (by decide)).trans q33
    have q34 : w19 34 = some (kl_aI G 7 ((fun t => nI (lco t)))) := (fr25 _ (by decide) (by decide) (by decide)).trans q34
    have q35 : w19 35 = some (kl_aI G 7 lpa) := (fr25 _ (by decide) (by decide) (by decide)).trans q35
    have q36 : w19 36 = some (kl_aI G 7 lwy) := (fr25 _ (by decide) (by decide) (by decide)).trans q36
    have q37 : w19 37 = some (kl_aI G 5 stb) := (fr25 _ (by decide) (by decide) (by decide)).trans q37
    have q38 : w19 38 = some (kl_aI G 5 ((fun t => nI (sco t)))) := (fr25 _ (by decide) (by decide) (by decide)).trans q38
    have q39 : w19 39 = some (kl_aI G 5 ctb) := (fr25 _ (by decide) (by decide) (by decide)).trans q39
    have q40 : w19 40 = some (kl_aI G 5 ((fun t => nI (cln t)))) := (fr25 _ (by decide) (by decide) (by decide)).trans q40
    have q41 : w19 41 = some (kl_aI G 50 ((fun t => nI (cw t)))) := (fr25 _ (by decide) (by decide) (by decide)).trans q41
    have q43 : w19 43 = some (kl_aI G 12 pl) := (fr25 _ (by decide) (by decide) (by decide)).trans q43
    have f22 : w19 26 = some (.inr (5, [.int ec, .int rs, .int (nI nT), .ref (B + 27), .int (nI on), .ref (B + 28), .ref (B + 29), .int (nI on), .ref (B + 30), .ref (B + 31), .ref (B + 32), .int (nI nL), .ref (B + 33), .ref (B + 34), .ref (B + 35), .ref (B + 36), .int (nI nS), .ref (B + 37), .ref (B + 38), .int (nI nC), .ref (B + 39), .ref (B + 40), .ref (B + 41), .int (nI nW), .ref (B + 42), .int hi, .ref (B + 43), .int (nI nM), .ref (B + 44), .ref (B + 45), .ref (B + 46)])) := f22
    have f23 : w19 28 = some (kl_aI G 24 O2) := f23
    have f24 : w19 29 = some (kl_aI G 96 D2) := f24
    have frm : ∀ j : Nat, j ≠ 26 → j ≠ 28 → j ≠ 29 → j ≠ 43 → w19 j = w j := fun j k0 k1 k2 k3 => (fr25 j k0 k1 k2).trans (frm j k0 k1 k2 k3)
    refine lv_aload_n hx hb dX5_settle_23 rfl (lv_at hl 1 rfl) ?_
    refine lv_iload_n hx hb dX5_settle_24 rfl (lv_at hl 0 rfl) ?_
    refine kl_put (C := RX5) (T := TX5) (N := 31) (ci := 5) (v := .int (nI y)) (ty := .int) hx hb hts hinX5 tyX5 tyX5_ok nmX5 hown hK hP f22 rfl 1 (by decide) (hts (.fieldLink RX5 121 "KinLedgerModel" "reason" "I") (by decide +kernel)) (fun _ h9 => h9) rfl (by decide +kernel) rfl rfl (Nat.le_of_ble_eq_true rfl) dX5_settle_25 (fun w26 H locs f27 fr28 hzw26 hP => ?_)
    have f27 : w26 26 = some (.inr (5, [.int ec, .int (nI y), .int (nI nT), .ref (B + 27), .int (nI on), .ref (B + 28), .ref (B + 29), .int (nI on), .ref (B + 30), .ref (B + 31), .ref (B + 32), .int (nI nL), .ref (B + 33), .ref (B + 34), .ref (B + 35), .ref (B + 36), .int (nI nS), .ref (B + 37), .ref (B + 38), .int (nI nC), .ref (B + 39), .ref (B + 40), .ref (B + 41), .int (nI nW), .ref (B + 42), .int hi, .ref (B + 43), .int (nI nM), .ref (B + 44), .ref (B + 45), .ref (B + 46)])) := f27
    have f23 : w26 28 = some (kl_aI G 24 O2) := (fr28 _ (by decide)).trans f23
    have f24 : w26 29 = some (kl_aI G 96 D2) := (fr28 _ (by decide)).trans f24
    have q30 : w26 30 = some (kl_aI G 24 oO) := (fr28 _ (by decide)).trans q30
    have q31 : w26 31 = some (kl_aI G 96 oD) := (fr28 _ (by decide)).trans q31
    have q33 : w26 33 = some (kl_aI G 7 lch) := (fr28 _ (by decide)).trans q33
    have q34 : w26 34 = some (kl_aI G 7 ((fun t => nI (lco t)))) := (fr28 _ (by decide)).trans q34
    have q35 : w26 35 = some (kl_aI G 7 lpa) := (fr28 _ (by decide)).trans q35
    have q36 : w26 36 = some (kl_aI G 7 lwy) := (fr28 _ (by decide)).trans q36
    have q37 : w26 37 = some (kl_aI G 5 stb) := (fr28 _ (by decide)).trans q37
    have q38 : w26 38 = some (kl_aI G 5 ((fun t => nI (sco t)))) := (fr28 _ (by decide)).trans q38
    have q39 : w26 39 = some (kl_aI G 5 ctb) := (fr28 _ (by decide)).trans q39
    have q40 : w26 40 = some (kl_aI G 5 ((fun t => nI (cln t)))) := (fr28 _ (by decide)).trans q40
    have q41 : w26 41 = some (kl_aI G 50 ((fun t => nI (cw t)))) := (fr28 _ (by decide)).trans q41
    have q43 : w26 43 = some (kl_aI G 12 pl) := (fr28 _ (by decide)).trans q43
    have frm : ∀ j : Nat, j ≠ 26 → j ≠ 28 → j ≠ 29 → j ≠ 43 → w26 j = w j := fun j k0 k1 k2 k3 => (fr28 j k0).trans (frm j k0 k1 k2 k3)
    refine lv_iload_n hx hb dX5_settle_28 rfl (lv_at hl 3 rfl) ?_
    exact kl_iret hx hb hr hlocks hP (Or.inr ⟨_, (fun z => absurd ((kl_n0 (by omega)).mp z) (by omega)), Or.inl ⟨c1, rfl⟩, rfl, ⟨_, f27⟩, ⟨O2, D2, f23, f24, hO2, hD2⟩, ⟨_, q43⟩, frm⟩) dX5_settle_29

abbrev rm_X5_referred : Room := { frames := 0, cells := 0, slots := 0, locals := 0 }
set_option maxHeartbeats 4000000 in
set_option maxRecDepth 100000 in
theorem c_X5_referred (l : Launch) (G : kl_G) (B : Nat) (w : kl_M) {nT nL nS nC nW nM n on : Nat} {ec rs hi : Int32} {oO oD lch : Nat → Int32} {lco : Nat → Nat} {lpa : Nat → Int32} (k p q : Nat) (q26 : w 26 = some (.inr (5, [.int ec, .int rs, .int (nI nT), .ref (B + 27), .int (nI n), .ref (B + 28), .ref (B + 29), .int (nI on), .ref (B + 30), .ref (B + 31), .ref (B + 32), .int (nI nL), .ref (B + 33), .ref (B + 34), .ref (B + 35), .ref (B + 36), .int (nI nS), .ref (B + 37), .ref (B + 38), .int (nI nC), .ref (B + 39), .ref (B + 40), .ref (B + 41), .int (nI nW), .ref (B + 42), .int hi, .ref (B + 43), .int (nI nM), .ref (B + 44), .ref (B + 45), .ref (B + 46)]))) (q30 : w 30 = some (kl_aI G 24 oO)) (q31 : w 31 = some (kl_aI G 96 oD)) (q33 : w 33 = some (kl_aI G 7 lch)) (q34 : w 34 = some (kl_aI G 7 ((fun t => nI (lco t))))) (q35 : w 35 = some (kl_aI G 7 lpa)) (hk : k < 7) (hp : p < 24) (hq : q < 24) (hco : lco k < 4) : Met l yX5_referred wsX5_referred rm_X5_referred (kl_Pc G B w [.ref (B + 26), .int (nI k), .int (nI p), .int (nI q)]) (kl_Qi G B (fun r w1 => w = w1 ∧ kl_b r (mt_ref oO oD (lch k) (lco k) (lpa k) p q))) 0 0 (kl_fr B) := by
  refine Met.ofW (cc := cX5_referred) (maxL := 5) (ret := (some .boolean)) (by decide) rfl ?_
  intro pg e s m args below meth cd s₁ Bd hml hv
  obtain ⟨rfl, hP0, hK⟩ := hv
  have hx := Bd.exec
  have hb := Bd.bytes
  have hr := Bd.returns
  have hts := atoms_spec (ws := wsX5_referred) Bd.pre
  have hown : s.vm.findClass RX5 = some m.cls := findClass_of_methodNamed Bd.named
  have hlocks := Bd.notSynchronized
  have hinX5 : ∀ w ∈ u_ws RX5 TX5 31, w ∈ wsX5_referred := by decide +kernel
  have hP := kl_S.rf hP0
  have hl := lv_entry ([.ref (B + 26), .int (nI k), .int (nI p), .int (nI q)]) (n := 5) (Nat.le_of_ble_eq_true rfl)
  rw [lg_entry_eq]
  generalize (lg_sl ([.ref (B + 26), .int (nI k), .int (nI p), .int (nI q)]) ++ List.replicate (5 - (lg_sl ([.ref (B + 26), .int (nI k), .int (nI p), .int (nI q)])).length) Slot.unset).toArray = ls at hl ⊢
  have hl : lv_has ls 5 [(0, .ref (B + 26)), (1, .int (nI k)), (2, .int (nI p)), (3, .int (nI q))] := hl
  refine lv_aload_n hx hb dX5_referred_0 rfl (lv_at hl 0 rfl) ?_
  refine kl_get (C := RX5) (T := TX5) (N := 31) (ci := 5) hx hb hts hinX5 hown hK hP q26 rfl 9 (by decide) (hts (.fieldLink RX5 22 "KinLedgerModel" "old" "[I") (by decide +kernel)) (fun _ h9 => h9) rfl dX5_referred_1 ?_
  refine lv_iconst (v := nI 4) hx hb dX5_referred_4 (by decide) ?_
  refine lv_iload_n hx hb dX5_referred_5 rfl (lv_at hl 2 rfl) ?_
  refine lv_imul hx hb dX5_referred_6 ?_
  refine kl_top (z := nI (4 * p)) (pk_mul _ _) ?_
  refine lv_aload_n hx hb dX5_referred_7 rfl (lv_at hl 0 rfl) ?_
  refine kl_get (C := RX5) (T := TX5) (N := 31) (ci := 5) hx hb hts hinX5 hown hK hP q26 rfl 13 (by decide) (hts (.fieldLink RX5 32 "KinLedgerModel" "linkColumn" "[I") (by decide +kernel)) (fun _ h9 => h9) rfl dX5_referred_8 ?_
  refine lv_iload_n hx hb dX5_referred_11 rfl (lv_at hl 1 rfl) ?_
  refine kl_iald hx hb hK hP q34 (by omega) (by omega) dX5_referred_12 ?_
  refine kl_top (z := nI (lco k)) rfl ?_
  refine lv_iadd hx hb dX5_referred_13 ?_
  refine kl_top (z := nI (4 * p + lco k)) (by first | exact nI_add _ _ | (rw [nI_add]; first | rfl | (congr 1; omega))) ?_
  refine kl_iald hx hb hK hP q31 (by omega) (by omega) dX5_referred_14 ?_
  refine lv_istore (lv' := [(4, .int (oD (4 * p + lco k))), (0, .ref (B + 26)), (1, .int (nI k)), (2, .int (nI p)), (3, .int (nI q))]) hx hb dX5_referred_15 hl (by decide) rfl (fun ls hl => ?_)
  refine lv_aload_n hx hb dX5_referred_17 rfl (lv_at hl 1 rfl) ?_
  refine kl_get (C := RX5) (T := TX5) (N := 31) (ci := 5) hx hb hts hinX5 hown hK hP q26 rfl 8 (by decide) (hts (.fieldLink RX5 19 "KinLedgerModel" "oldOf" "[I") (by decide +kernel)) (fun _ h9 => h9) rfl dX5_referred_18 ?_
  refine lv_iload_n hx hb dX5_referred_21 rfl (lv_at hl 3 rfl) ?_
  refine kl_iald hx hb hK hP q30 (by omega) (by omega) dX5_referred_22 ?_
  refine lv_aload_n hx hb dX5_referred_23 rfl (lv_at hl 1 rfl) ?_
  refine kl_get (C := RX5) (T := TX5) (N := 31) (ci := 5) hx hb hts hinX5 hown hK hP q26 rfl 12 (by decide) (hts (.fieldLink RX5 29 "KinLedgerModel" "child" "[I") (by decide +kernel)) (fun _ h9 => h9) rfl dX5_referred_24 ?_
  refine lv_iload_n hx hb dX5_referred_27 rfl (lv_at hl 2 rfl) ?_
  refine kl_iald hx hb hK hP q33 (by omega) (by omega) dX5_referred_28 ?_
  refine lv_icmp_ne (tgt := 69) hx hb dX5_referred_29 (by decide) (fun c29 => ?_) (fun c29 => ?_)
  · refine lv_iconst (v := nI 0) hx hb dX5_referred_69 (by decide) ?_
    exact kl_zret hx hb hr hlocks (by decide) hP ⟨rfl, kl_b.f (fun z => c29 z.1)⟩ dX5_referred_70
  · refine lv_aload_n hx hb dX5_referred_32 rfl (lv_at hl 1 rfl) ?_
    refine kl_get (C := RX5) (T := TX5) (N := 31) (ci := 5) hx hb hts hinX5 hown hK hP q26 rfl 8 (by decide) (hts (.fieldLink RX5 19 "KinLedgerModel" "oldOf" "[I") (by decide +kernel)) (fun _ h9 => h9) rfl dX5_referred_33 ?_
    refine lv_iload_n hx hb dX5_referred_36 rfl (lv_at hl 4 rfl) ?_
    refine kl_iald hx hb hK hP q30 (by omega) (by omega) dX5_referred_37 ?_
    refine lv_aload_n hx hb dX5_referred_38 rfl (lv_at hl 1 rfl) ?_
    refine kl_get (C := RX5) (T := TX5) (N := 31) (ci := 5) hx hb hts hinX5 hown hK hP q26 rfl 14 (by decide) (hts (.fieldLink RX5 35 "KinLedgerModel" "parent" "[I") (by decide +kernel)) (fun _ h9 => h9) rfl dX5_referred_39 ?_
    refine lv_iload_n hx hb dX5_referred_42 rfl (lv_at hl 2 rfl) ?_
    refine kl_iald hx hb hK hP q35 (by omega) (by omega) dX5_referred_43 ?_
    refine lv_icmp_ne (tgt := 69) hx hb dX5_referred_44 (by decide) (fun c44 => ?_) (fun c44 => ?_)
    · refine lv_iconst (v := nI 0) hx hb dX5_referred_69 (by decide) ?_
      exact kl_zret hx hb hr hlocks (by decide) hP ⟨rfl, kl_b.f (fun z => c44 z.2.2.1)⟩ dX5_referred_70
    · refine lv_iload hx hb dX5_referred_47 (lv_at hl 0 rfl) ?_
      refine lv_if_eq (tgt := 69) hx hb dX5_referred_49 (by decide) (fun c49 => ?_) (fun c49 => ?_)
      · refine lv_iconst (v := nI 0) hx hb dX5_referred_69 (by decide) ?_
        exact kl_zret hx hb hr hlocks (by decide) hP ⟨rfl, kl_b.f (fun z => z.2.1 c49)⟩ dX5_referred_70
      · refine lv_iload hx hb dX5_referred_52 (lv_at hl 0 rfl) ?_
        refine lv_aload_n hx hb dX5_referred_54 rfl (lv_at hl 1 rfl) ?_
        refine kl_get (C := RX5) (T := TX5) (N := 31) (ci := 5) hx hb hts hinX5 hown hK hP q26 rfl 9 (by decide) (hts (.fieldLink RX5 22 "KinLedgerModel" "old" "[I") (by decide +kernel)) (fun _ h9 => h9) rfl dX5_referred_55 ?_
        refine lv_iconst (v := nI 4) hx hb dX5_referred_58 (by decide) ?_
        refine lv_iload_n hx hb dX5_referred_59 rfl (lv_at hl 4 rfl) ?_
        refine lv_imul hx hb dX5_referred_60 ?_
        refine kl_top (z := nI (4 * q)) (pk_mul _ _) ?_
        refine kl_iald hx hb hK hP q31 (by omega) (by omega) dX5_referred_61 ?_
        refine lv_icmp_ne (tgt := 69) hx hb dX5_referred_62 (by decide) (fun c62 => ?_) (fun c62 => ?_)
        · refine lv_iconst (v := nI 0) hx hb dX5_referred_69 (by decide) ?_
          exact kl_zret hx hb hr hlocks (by decide) hP ⟨rfl, kl_b.f (fun z => c62 z.2.2.2.symm)⟩ dX5_referred_70
        · refine lv_iconst (v := nI 1) hx hb dX5_referred_65 (by decide) ?_
          refine lv_goto (tgt := 70) hx hb dX5_referred_66 (by decide) ?_
          exact kl_zret hx hb hr hlocks (by decide) hP ⟨rfl, kl_b.t ⟨c29, c49, c44, c62.symm⟩⟩ dX5_referred_70

abbrev rm_X5_spread : Room := { frames := 1, cells := 0, slots := 0, locals := 24 }
set_option maxHeartbeats 4000000 in
set_option maxRecDepth 100000 in
theorem c_X5_spread (l : Launch) (G : kl_G) (B : Nat) (w : kl_M) {nT nL nS nC nW nM n on : Nat} {ec rs hi : Int32} {oO oD gn : Nat → Int32} {lch : Nat → Int32} {lco : Nat → Nat} {lpa lwy : Nat → Int32} (q26 : w 26 = some (.inr (5, [.int ec, .int rs, .int (nI nT), .ref (B + 27), .int (nI n), .ref (B + 28), .ref (B + 29), .int (nI on), .ref (B + 30), .ref (B + 31), .ref (B + 32), .int (nI nL), .ref (B + 33), .ref (B + 34), .ref (B + 35), .ref (B + 36), .int (nI nS), .ref (B + 37), .ref (B + 38), .int (nI nC), .ref (B + 39), .ref (B + 40), .ref (B + 41), .int (nI nW), .ref (B + 42), .int hi, .ref (B + 43), .int (nI nM), .ref (B + 44), .ref (B + 45), .ref (B + 46)]))) (q30 : w 30 = some (kl_aI G 24 oO)) (q31 : w 31 = some (kl_aI G 96 oD)) (q32 : w 32 = some (kl_aZ G 24 gn)) (q33 : w 33 = some (kl_aI G 7 lch)) (q34 : w 34 = some (kl_aI G 7 ((fun t => nI (lco t))))) (q35 : w 35 = some (kl_aI G 7 lpa)) (q36 : w 36 = some (kl_aI G 7 lwy)) (hn : n ≤ 24) (hnL : nL ≤ 6) (hrl : ∀ j, j < nL → lch j ≠ -1 ∧ lpa j ≠ -1 ∧ lco j < 4 ∧ (lwy j = 0 ∨ lwy j = nI 1 ∨ lwy j = nI 2)) : Met l yX5_spread wsX5_spread rm_X5_spread (kl_Pc G B w [.ref (B + 26)]) (kl_Qv G B (fun w1 => (∃ g2, w1 32 = some (kl_aZ G 24 g2) ∧ mt_from (md_T n oO) oD nL lch lco lpa lwy gn g2 ∧ ∀ l p, p < 24 → l < nL → mt_chk (md_T n oO) oD g2 lch lco lpa lwy l p) ∧ ∀ j : Nat, j ≠ 32 → w1 j = w j)) 0 0 (kl_fr B) := by
  refine Met.ofW (cc := cX5_spread) (maxL := 5) (ret := none) (by decide) rfl ?_
  intro pg e s m args below meth cd s₁ Bd hml hv
  obtain ⟨rfl, hP0, hK⟩ := hv
  have hx := Bd.exec
  have hb := Bd.bytes
  have hr := Bd.returns
  have hts := atoms_spec (ws := wsX5_spread) Bd.pre
  have hown : s.vm.findClass RX5 = some m.cls := findClass_of_methodNamed Bd.named
  have hlocks := Bd.notSynchronized
  have hinX5 : ∀ w ∈ u_ws RX5 TX5 31, w ∈ wsX5_spread := by decide +kernel
  have hP := kl_S.rf hP0
  have hl := lv_entry ([.ref (B + 26)]) (n := 5) (Nat.le_of_ble_eq_true rfl)
  rw [lg_entry_eq]
  generalize (lg_sl ([.ref (B + 26)]) ++ List.replicate (5 - (lg_sl ([.ref (B + 26)])).length) Slot.unset).toArray = ls at hl ⊢
  have hl : lv_has ls 5 [(0, .ref (B + 26))] := hl
  have frm : ∀ j : Nat, j ≠ 32 → w j = w j := fun j _ => rfl
  refine lv_iconst (v := nI 1) hx hb dX5_spread_0 (by decide) ?_
  refine lv_istore_n (lv' := [(1, .int (nI 1)), (0, .ref (B + 26))]) hx hb dX5_spread_1 rfl hl (by decide) rfl (fun ls hl => ?_)
  have lp2 : ∀ (n2 : Nat) (rd : Nat) (mm : Nat) (g : Nat → Int32), 25 - rd < n2 → (rd ≤ 25) → (mt_from (md_T n oO) oD nL lch lco lpa lwy gn g) → (mt_rd (md_T n oO) oD nL lch lco lpa lwy rd mm g) → ∀ (w1 : kl_M) (H : Heap) (locs : List Loc), w1 26 = some (.inr (5, [.int ec, .int rs, .int (nI nT), .ref (B + 27), .int (nI n), .ref (B + 28), .ref (B + 29), .int (nI on), .ref (B + 30), .ref (B + 31), .ref (B + 32), .int (nI nL), .ref (B + 33), .ref (B + 34), .ref (B + 35), .ref (B + 36), .int (nI nS), .ref (B + 37), .ref (B + 38), .int (nI nC), .ref (B + 39), .ref (B + 40), .ref (B + 41), .int (nI nW), .ref (B + 42), .int hi, .ref (B + 43), .int (nI nM), .ref (B + 44), .ref (B + 45), .ref (B + 46)])) → w1 30 = some (kl_aI G 24 oO) → w1 31 = some (kl_aI G 96 oD) → w1 32 = some (kl_aZ G 24 g) → w1 33 = some (kl_aI G 7 lch) → w1 34 = some (kl_aI G 7 ((fun t => nI (lco t)))) → w1 35 = some (kl_aI G 7 lpa) → w1 36 = some (kl_aI G 7 lwy) → (∀ j : Nat, j ≠ 32 → w1 j = w j) → kl_S G B w1 s.heap H locs → ∀ ls : Array Slot, lv_has ls 5 [(0, .ref (B + 26)), (1, .int (nI mm))] → W pg l e rm_X5_spread s m ([.ref (B + 26)] : List Value).toArray below meth cd H locs (0) (0) (MQ below (kl_Qv G B (fun w1 => (∃ g2, w1 32 = some (kl_aZ G 24 g2) ∧ mt_from (md_T n oO) oD nL lch lco lpa lwy gn g2 ∧ ∀ l p, p < 24 → l < nL → mt_chk (md_T n oO) oD g2 lch lco lpa lwy l p) ∧ ∀ j : Nat, j ≠ 32 → w1 j = w j)) ([.ref (B + 26)] : List Value).toArray s 0 0 (kl_fr B)) (F0 m 2 ls []) := by
    intro n2
    induction n2 with
    | zero => intro rd mm g hm; exact absurd hm (Nat.not_lt_zero _)
    | succ n2 ih2 =>
      intro rd mm g hm hrb hfr hrd w1 H locs q26 q30 q31 q32 q33 q34 q35 q36 frm hP ls hl
      have hmm2 := hrd.bool
      refine lv_iload_n hx hb dX5_spread_2 rfl (lv_at hl 1 rfl) ?_
      refine kl_z_eq (tgt := 110) hx hb (by omega) dX5_spread_3 (by decide) (fun c3 => ?_) (fun c3 => ?_)
      · exact kl_vret hx hb hr hlocks hP ⟨⟨_, q32, hfr, hrd.fin (Or.inl c3)⟩, frm⟩ dX5_spread_110
      · have hrd24 := md_rd_le hrd (by omega)
        refine lv_iconst (v := nI 0) hx hb dX5_spread_6 (by decide) ?_
        refine lv_istore_n (lv' := [(1, .int (nI 0)), (0, .ref (B + 26))]) hx hb dX5_spread_7 rfl hl (by decide) rfl (fun ls hl => ?_)
        refine lv_iconst (v := nI 0) hx hb dX5_spread_8 (by decide) ?_
        refine lv_istore_n (lv' := [(2, .int (nI 0)), (1, .int (nI 0)), (0, .ref (B + 26))]) hx hb dX5_spread_9 rfl hl (by decide) rfl (fun ls hl => ?_)
        have lp10 : ∀ (n10 : Nat) (li : Nat) (m2 : Nat) (g2 : Nat → Int32), nL - li < n10 → (li ≤ nL) → (mt_from (md_T n oO) oD nL lch lco lpa lwy gn g2) → (md_s3 (md_T n oO) oD lch lco lpa lwy (fun l p q => l < li ∧ p < n ∧ q < n) g g2 m2) → ∀ (w1 : kl_M) (H : Heap) (locs : List Loc), w1 26 = some (.inr (5, [.int ec, .int rs, .int (nI nT), .ref (B + 27), .int (nI n), .ref (B + 28), .ref (B + 29), .int (nI on), .ref (B + 30), .ref (B + 31), .ref (B + 32), .int (nI nL), .ref (B + 33), .ref (B + 34), .ref (B + 35), .ref (B + 36), .int (nI nS), .ref (B + 37), .ref (B + 38), .int (nI nC), .ref (B + 39), .ref (B + 40), .ref (B + 41), .int (nI nW), .ref (B + 42), .int hi, .ref (B + 43), .int (nI nM), .ref (B + 44), .ref (B + 45), .ref (B + 46)])) → w1 30 = some (kl_aI G 24 oO) → w1 31 = some (kl_aI G 96 oD) → w1 32 = some (kl_aZ G 24 g2) → w1 33 = some (kl_aI G 7 lch) → w1 34 = some (kl_aI G 7 ((fun t => nI (lco t)))) → w1 35 = some (kl_aI G 7 lpa) → w1 36 = some (kl_aI G 7 lwy) → (∀ j : Nat, j ≠ 32 → w1 j = w j) → kl_S G B w1 s.heap H locs → ∀ ls : Array Slot, lv_has ls 5 [(0, .ref (B + 26)), (1, .int (nI m2)), (2, .int (nI li))] → W pg l e rm_X5_spread s m ([.ref (B + 26)] : List Value).toArray below meth cd H locs (0) (0) (MQ below (kl_Qv G B (fun w1 => (∃ g2, w1 32 = some (kl_aZ G 24 g2) ∧ mt_from (md_T n oO) oD nL lch lco lpa lwy gn g2 ∧ ∀ l p, p < 24 → l < nL → mt_chk (md_T n oO) oD g2 lch lco lpa lwy l p) ∧ ∀ j : Nat, j ≠ 32 → w1 j = w j)) ([.ref (B + 26)] : List Value).toArray s 0 0 (kl_fr B)) (F0 m 10 ls []) := by
          intro n10
          induction n10 with
          | zero => intro li m2 g2 hm; exact absurd hm (Nat.not_lt_zero _)
          | succ n10 ih10 =>
            intro li m2 g2 hm hl9 hf2 hs w1 H locs q26 q30 q31 q32 q33 q34 q35 q36 frm hP ls hl
            have hmb := hs.bool
            refine lv_iload_n hx hb dX5_spread_10 rfl (lv_at hl 2 rfl) ?_
            refine lv_aload_n hx hb dX5_spread_11 rfl (lv_at hl 0 rfl) ?_
            refine kl_get (C := RX5) (T := TX5) (N := 31) (ci := 5) hx hb hts hinX5 hown hK hP q26 rfl 11 (by decide) (hts (.fieldLink RX5 106 "KinLedgerModel" "links" "I") (by decide +kernel)) (fun _ h9 => h9) rfl dX5_spread_12 ?_
            refine kl_ge (tgt := 107) hx hb (by omega) (by omega) dX5_spread_15 (by decide) (fun c15 => ?_) (fun c15 => ?_)
            · refine lv_goto (tgt := 2) hx hb dX5_spread_107 (by decide) ?_
              exact ih2 (rd + 1) m2 g2 (by omega) (by first | omega | grind) hf2 (md_s3.nx hrd (by omega) (fun j hj => ⟨(hrl j hj).1, (hrl j hj).2.1⟩) (hs.same (fun l p q z => by omega))) _ _ _ q26 q30 q31 q32 q33 q34 q35 q36 frm hP ls (lv_sub hl [0, 1] rfl)
            · refine lv_iconst (v := nI 0) hx hb dX5_spread_18 (by decide) ?_
              refine lv_istore_n (lv' := [(3, .int (nI 0)), (0, .ref (B + 26)), (1, .int (nI m2)), (2, .int (nI li))]) hx hb dX5_spread_19 rfl hl (by decide) rfl (fun ls hl => ?_)
              have lp20 : ∀ (n20 : Nat) (pr : Nat) (m2 : Nat) (g2 : Nat → Int32), n - pr < n20 → (pr ≤ n) → (mt_from (md_T n oO) oD nL lch lco lpa lwy gn g2) → (md_s3 (md_T n oO) oD lch lco lpa lwy (fun l p q => (l < li ∧ p < n ∧ q < n) ∨ (l = li ∧ p < pr ∧ q < n)) g g2 m2) → ∀ (w1 : kl_M) (H : Heap) (locs : List Loc), w1 26 = some (.inr (5, [.int ec, .int rs, .int (nI nT), .ref (B + 27), .int (nI n), .ref (B + 28), .ref (B + 29), .int (nI on), .ref (B + 30), .ref (B + 31), .ref (B + 32), .int (nI nL), .ref (B + 33), .ref (B + 34), .ref (B + 35), .ref (B + 36), .int (nI nS), .ref (B + 37), .ref (B + 38), .int (nI nC), .ref (B + 39), .ref (B + 40), .ref (B + 41), .int (nI nW), .ref (B + 42), .int hi, .ref (B + 43), .int (nI nM), .ref (B + 44), .ref (B + 45), .ref (B + 46)])) → w1 30 = some (kl_aI G 24 oO) → w1 31 = some (kl_aI G 96 oD) → w1 32 = some (kl_aZ G 24 g2) → w1 33 = some (kl_aI G 7 lch) → w1 34 = some (kl_aI G 7 ((fun t => nI (lco t)))) → w1 35 = some (kl_aI G 7 lpa) → w1 36 = some (kl_aI G 7 lwy) → (∀ j : Nat, j ≠ 32 → w1 j = w j) → kl_S G B w1 s.heap H locs → ∀ ls : Array Slot, lv_has ls 5 [(0, .ref (B + 26)), (1, .int (nI m2)), (2, .int (nI li)), (3, .int (nI pr))] → W pg l e rm_X5_spread s m ([.ref (B + 26)] : List Value).toArray below meth cd H locs (0) (0) (MQ below (kl_Qv G B (fun w1 => (∃ g2, w1 32 = some (kl_aZ G 24 g2) ∧ mt_from (md_T n oO) oD nL lch lco lpa lwy gn g2 ∧ ∀ l p, p < 24 → l < nL → mt_chk (md_T n oO) oD g2 lch lco lpa lwy l p) ∧ ∀ j : Nat, j ≠ 32 → w1 j = w j)) ([.ref (B + 26)] : List Value).toArray s 0 0 (kl_fr B)) (F0 m 20 ls []) := by
                intro n20
                induction n20 with
                | zero => intro pr m2 g2 hm; exact absurd hm (Nat.not_lt_zero _)
                | succ n20 ih20 =>
                  intro pr m2 g2 hm hp9 hf2 hs w1 H locs q26 q30 q31 q32 q33 q34 q35 q36 frm hP ls hl
                  have hmb := hs.bool
                  refine lv_iload_n hx hb dX5_spread_20 rfl (lv_at hl 3 rfl) ?_
                  refine lv_aload_n hx hb dX5_spread_21 rfl (lv_at hl 0 rfl) ?_
                  refine kl_get (C := RX5) (T := TX5) (N := 31) (ci := 5) hx hb hts hinX5 hown hK hP q26 rfl 4 (by decide) (hts (.fieldLink RX5 82 "KinLedgerModel" "rows" "I") (by decide +kernel)) (fun _ h9 => h9) rfl dX5_spread_22 ?_
                  refine kl_ge (tgt := 101) hx hb (by omega) (by omega) dX5_spread_25 (by decide) (fun c25 => ?_) (fun c25 => ?_)
                  · refine lv_iinc (v := nI (li + 1)) (lv' := [(2, .int (nI (li + 1))), (0, .ref (B + 26)), (1, .int (nI m2)), (3, .int (nI pr))]) hx hb dX5_spread_101 hl (k := 2) rfl (nI_1 _) (by decide) rfl (fun ls hl => ?_)
                    refine lv_goto (tgt := 10) hx hb dX5_spread_104 (by decide) ?_
                    exact ih10 (li + 1) m2 g2 (by omega) (by first | omega | grind) hf2 (hs.same (fun l p q z => by omega)) _ _ _ q26 q30 q31 q32 q33 q34 q35 q36 frm hP ls (lv_sub hl [1, 2, 0] rfl)
                  · refine lv_iconst (v := nI 0) hx hb dX5_spread_28 (by decide) ?_
                    refine lv_istore (lv' := [(4, .int (nI 0)), (0, .ref (B + 26)), (1, .int (nI m2)), (2, .int (nI li)), (3, .int (nI pr))]) hx hb dX5_spread_29 hl (by decide) rfl (fun ls hl => ?_)
                    have lp31 : ∀ (n31 : Nat) (x : Nat) (m2 : Nat) (g2 : Nat → Int32), n - x < n31 → (x ≤ n) → (mt_from (md_T n oO) oD nL lch lco lpa lwy gn g2) → (md_s3 (md_T n oO) oD lch lco lpa lwy (fun l p q => (l < li ∧ p < n ∧ q < n) ∨ (l = li ∧ p < pr ∧ q < n) ∨ (l = li ∧ p = pr ∧ q < x)) g g2 m2) → ∀ (w1 : kl_M) (H : Heap) (locs : List Loc), w1 26 = some (.inr (5, [.int ec, .int rs, .int (nI nT), .ref (B + 27), .int (nI n), .ref (B + 28), .ref (B + 29), .int (nI on), .ref (B + 30), .ref (B + 31), .ref (B + 32), .int (nI nL), .ref (B + 33), .ref (B + 34), .ref (B + 35), .ref (B + 36), .int (nI nS), .ref (B + 37), .ref (B + 38), .int (nI nC), .ref (B + 39), .ref (B + 40), .ref (B + 41), .int (nI nW), .ref (B + 42), .int hi, .ref (B + 43), .int (nI nM), .ref (B + 44), .ref (B + 45), .ref (B + 46)])) → w1 30 = some (kl_aI G 24 oO) → w1 31 = some (kl_aI G 96 oD) → w1 32 = some (kl_aZ G 24 g2) → w1 33 = some (kl_aI G 7 lch) → w1 34 = some (kl_aI G 7 ((fun t => nI (lco t)))) → w1 35 = some (kl_aI G 7 lpa) → w1 36 = some (kl_aI G 7 lwy) → (∀ j : Nat, j ≠ 32 → w1 j = w j) → kl_S G B w1 s.heap H locs → ∀ ls : Array Slot, lv_has ls 5 [(0, .ref (B + 26)), (1, .int (nI m2)), (2, .int (nI li)), (3, .int (nI pr)), (4, .int (nI x))] → W pg l e rm_X5_spread s m ([.ref (B + 26)] : List Value).toArray below meth cd H locs (0) (0) (MQ below (kl_Qv G B (fun w1 => (∃ g2, w1 32 = some (kl_aZ G 24 g2) ∧ mt_from (md_T n oO) oD nL lch lco lpa lwy gn g2 ∧ ∀ l p, p < 24 → l < nL → mt_chk (md_T n oO) oD g2 lch lco lpa lwy l p) ∧ ∀ j : Nat, j ≠ 32 → w1 j = w j)) ([.ref (B + 26)] : List Value).toArray s 0 0 (kl_fr B)) (F0 m 31 ls []) := by
                      intro n31
                      induction n31 with
                      | zero => intro x m2 g2 hm; exact absurd hm (Nat.not_lt_zero _)
                      | succ n31 ih31 =>
                        intro x m2 g2 hm hx9 hf2 hs w1 H locs q26 q30 q31 q32 q33 q34 q35 q36 frm hP ls hl
                        have hmb := hs.bool
                        refine lv_iload hx hb dX5_spread_31 (lv_at hl 4 rfl) ?_
                        refine lv_aload_n hx hb dX5_spread_33 rfl (lv_at hl 0 rfl) ?_
                        refine kl_get (C := RX5) (T := TX5) (N := 31) (ci := 5) hx hb hts hinX5 hown hK hP q26 rfl 4 (by decide) (hts (.fieldLink RX5 82 "KinLedgerModel" "rows" "I") (by decide +kernel)) (fun _ h9 => h9) rfl dX5_spread_34 ?_
                        refine kl_ge (tgt := 95) hx hb (by omega) (by omega) dX5_spread_37 (by decide) (fun c37 => ?_) (fun c37 => ?_)
                        · refine lv_iinc (v := nI (pr + 1)) (lv' := [(3, .int (nI (pr + 1))), (0, .ref (B + 26)), (1, .int (nI m2)), (2, .int (nI li)), (4, .int (nI x))]) hx hb dX5_spread_95 hl (k := 3) rfl (nI_1 _) (by decide) rfl (fun ls hl => ?_)
                          refine lv_goto (tgt := 20) hx hb dX5_spread_98 (by decide) ?_
                          exact ih20 (pr + 1) m2 g2 (by omega) (by first | omega | grind) hf2 (hs.same (fun l p q z => by omega)) _ _ _ q26 q30 q31 q32 q33 q34 q35 q36 frm hP ls (lv_sub hl [1, 2, 3, 0] rfl)
                        · refine lv_aload_n hx hb dX5_spread_40 rfl (lv_at hl 0 rfl) ?_
                          refine kl_get (C := RX5) (T := TX5) (N := 31) (ci := 5) hx hb hts hinX5 hown hK hP q26 rfl 15 (by decide) (hts (.fieldLink RX5 38 "KinLedgerModel" "ways" "[I") (by decide +kernel)) (fun _ h9 => h9) rfl dX5_spread_41 ?_
                          refine lv_iload_n hx hb dX5_spread_44 rfl (lv_at hl 2 rfl) ?_
                          refine kl_iald hx hb hK hP q36 (by omega) (by omega) dX5_spread_45 ?_
                          refine lv_iconst (v := nI 1) hx hb dX5_spread_46 (by decide) ?_
                          refine lv_icmp_ne (tgt := 89) hx hb dX5_spread_47 (by decide) (fun c47 => ?_) (fun c47 => ?_)
                          · refine lv_iinc (v := nI (x + 1)) (lv' := [(4, .int (nI (x + 1))), (0, .ref (B + 26)), (1, .int (nI m2)), (2, .int (nI li)), (3, .int (nI pr))]) hx hb dX5_spread_89 hl (k := 4) rfl (nI_1 _) (by decide) rfl (fun ls hl => ?_)
                            refine lv_goto (tgt := 31) hx hb dX5_spread_92 (by decide) ?_
                            exact ih31 (x + 1) m2 g2 (by omega) (by first | omega | grind) hf2 (hs.skip (l0 := li) (x := pr) (y := x) (fun l p q z => by omega) (fun z _ _ => absurd z c47)) _ _ _ q26 q30 q31 q32 q33 q34 q35 q36 frm hP ls (lv_sub hl [1, 2, 3, 4, 0] rfl)
                          · refine lv_aload_n hx hb dX5_spread_50 rfl (lv_at hl 0 rfl) ?_
                            refine kl_get (C := RX5) (T := TX5) (N := 31) (ci := 5) hx hb hts hinX5 hown hK hP q26 rfl 10 (by decide) (hts (.fieldLink RX5 25 "KinLedgerModel" "gone" "[Z") (by decide +kernel)) (fun _ h9 => h9) rfl dX5_spread_51 ?_
                            refine lv_iload hx hb dX5_spread_54 (lv_at hl 4 rfl) ?_
                            refine kl_zald hx hb hK hP q32 (by omega) (by omega) dX5_spread_56 ?_
                            refine lv_if_eq (tgt := 89) hx hb dX5_spread_57 (by decide) (fun c57 => ?_) (fun c57 => ?_)
                            · refine lv_iinc (v := nI (x + 1)) (lv' := [(4, .int (nI (x + 1))), (0, .ref (B + 26)), (1, .int (nI m2)), (2, .int (nI li)), (3, .int (nI pr))]) hx hb dX5_spread_89 hl (k := 4) rfl (nI_1 _) (by decide) rfl (fun ls hl => ?_)
                              refine lv_goto (tgt := 31) hx hb dX5_spread_92 (by decide) ?_
                              exact ih31 (x + 1) m2 g2 (by omega) (by first | omega | grind) hf2 (hs.skip (l0 := li) (x := pr) (y := x) (fun l p q z => by omega) (fun _ _ z => absurd c57 z)) _ _ _ q26 q30 q31 q32 q33 q34 q35 q36 frm hP ls (lv_sub hl [1, 2, 3, 4, 0] rfl)
                            · refine lv_aload_n hx hb dX5_spread_60 rfl (lv_at hl 0 rfl) ?_
                              refine kl_get (C := RX5) (T := TX5) (N := 31) (ci := 5) hx hb hts hinX5 hown hK hP q26 rfl 10 (by decide) (hts (.fieldLink RX5 25 "KinLedgerModel" "gone" "[Z") (by decide +kernel)) (fun _ h9 => h9) rfl dX5_spread_61 ?_
                              refine lv_iload_n hx hb dX5_spread_64 rfl (lv_at hl 3 rfl) ?_
                              refine kl_zald hx hb hK hP q32 (by omega) (by omega) dX5_spread_65 ?_
                              refine lv_if_ne (tgt := 89) hx hb dX5_spread_66 (by decide) (fun c66 => ?_) (fun c66 => ?_)
                              · refine lv_iinc (v := nI (x + 1)) (lv' := [(4, .int (nI (x + 1))), (0, .ref (B + 26)), (1, .int (nI m2)), (2, .int (nI li)), (3, .int (nI pr))]) hx hb dX5_spread_89 hl (k := 4) rfl (nI_1 _) (by decide) rfl (fun ls hl => ?_)
                                refine lv_goto (tgt := 31) hx hb dX5_spread_92 (by decide) ?_
                                exact ih31 (x + 1) m2 g2 (by omega) (by first | omega | grind) hf2 (hs.skip (l0 := li) (x := pr) (y := x) (fun l p q z => by omega) (fun _ z _ => absurd z c66)) _ _ _ q26 q30 q31 q32 q33 q34 q35 q36 frm hP ls (lv_sub hl [1, 2, 3, 4, 0] rfl)
                              · refine lv_aload_n hx hb dX5_spread_69 rfl (lv_at hl 0 rfl) ?_
                                refine lv_iload_n hx hb dX5_spread_70 rfl (lv_at hl 2 rfl) ?_
                                refine lv_iload_n hx hb dX5_spread_71 rfl (lv_at hl 3 rfl) ?_
                                refine lv_iload hx hb dX5_spread_72 (lv_at hl 4 rfl) ?_
                                refine kl_cVi (C := RX5) (i := 26) (As := [.int (nI li), .int (nI pr), .int (nI x)]) (rest := []) ⟨hx, hb, hml, hown, hts⟩ (c_X5_referred l G B _ li pr x q26 q30 q31 q33 q34 q35 (by omega) (by omega) (by omega) (hrl li (by omega)).2.2.1) (cwV 3 hts gX5_spread_X5_referred rfl rfl rfl (by decide +kernel) ⟨Nat.le_of_ble_eq_true rfl, Nat.le_of_ble_eq_true rfl⟩) hK hP q26 rfl rfl hl.1 rfl (Nat.le_of_ble_eq_true rfl) dX5_spread_74 ⟨Nat.le_of_ble_eq_true rfl, Nat.le_of_ble_eq_true rfl⟩ (fun r3 w1 H locs q2 hP => ?_)
                                obtain ⟨rfl, hv4⟩ := q2
                                refine kl_ifeq (tgt := 89) hx hb hv4 dX5_spread_77 (by decide) (fun c77 => ?_) (fun c77 => ?_)
                                · refine lv_iinc (v := nI (x + 1)) (lv' := [(4, .int (nI (x + 1))), (0, .ref (B + 26)), (1, .int (nI m2)), (2, .int (nI li)), (3, .int (nI pr))]) hx hb dX5_spread_89 hl (k := 4) rfl (nI_1 _) (by decide) rfl (fun ls hl => ?_)
                                  refine lv_goto (tgt := 31) hx hb dX5_spread_92 (by decide) ?_
                                  exact ih31 (x + 1) m2 g2 (by omega) (by first | omega | grind) hf2 (hs.skip (l0 := li) (x := pr) (y := x) (fun l p q z => by omega) (fun _ _ _ z => c77 ((md_ref (by omega) (by omega)).mp z))) _ _ _ q26 q30 q31 q32 q33 q34 q35 q36 frm hP ls (lv_sub hl [1, 2, 3, 4, 0] rfl)
                                · refine lv_aload_n hx hb dX5_spread_80 rfl (lv_at hl 0 rfl) ?_
                                  refine kl_get (C := RX5) (T := TX5) (N := 31) (ci := 5) hx hb hts hinX5 hown hK hP q26 rfl 10 (by decide) (hts (.fieldLink RX5 25 "KinLedgerModel" "gone" "[Z") (by decide +kernel)) (fun _ h9 => h9) rfl dX5_spread_81 ?_
                                  refine lv_iload_n hx hb dX5_spread_84 rfl (lv_at hl 3 rfl) ?_
                                  refine lv_iconst (v := nI 1) hx hb dX5_spread_85 (by decide) ?_
                                  refine kl_zast hx hb hK hP q32 (by omega) (by omega) (y := nI 1) (by decide) dX5_spread_86 (fun w5 H locs f6 fr7 hzw5 hP => ?_)
                                  have q26 : w5 26 = some (.inr (5, [.int ec, .int rs, .int (nI nT), .ref (B + 27), .int (nI n), .ref (B + 28), .ref (B + 29), .int (nI on), .ref (B + 30), .ref (B + 31), .ref (B + 32), .int (nI nL), .ref (B + 33), .ref (B + 34), .ref (B + 35), .ref (B + 36), .int (nI nS), .ref (B + 37), .ref (B + 38), .int (nI nC), .ref (B + 39), .ref (B + 40), .ref (B + 41), .int (nI nW), .ref (B + 42), .int hi, .ref (B + 43), .int (nI nM), .ref (B + 44), .ref (B + 45), .ref (B + 46)])) := (fr7 _ (by decide)).trans q26
                                  have q30 : w5 30 = some (kl_aI G 24 oO) := (fr7 _ (by decide)).trans q30
                                  have q31 : w5 31 = some (kl_aI G 96 oD) := (fr7 _ (by decide)).trans q31
                                  have q33 : w5 33 = some (kl_aI G 7 lch) := (fr7 _ (by decide)).trans q33
                                  have q34 : w5 34 = some (kl_aI G 7 ((fun t => nI (lco t)))) := (fr7 _ (by decide)).trans q34
                                  have q35 : w5 35 = some (kl_aI G 7 lpa) := (fr7 _ (by decide)).trans q35
                                  have q36 : w5 36 = some (kl_aI G 7 lwy) := (fr7 _ (by decide)).trans q36
                                  have frm : ∀ j : Nat, j ≠ 32 → w5 j = w j := fun j k0 => (fr7 j k0).trans (frm j k0)
                                  refine lv_iconst (v := nI 1) hx hb dX5_spread_87 (by decide) ?_
                                  refine lv_istore_n (lv' := [(1, .int (nI 1)), (0, .ref (B + 26)), (2, .int (nI li)), (3, .int (nI pr)), (4, .int (nI x))]) hx hb dX5_spread_88 rfl hl (by decide) rfl (fun ls hl => ?_)
                                  refine lv_iinc (v := nI (x + 1)) (lv' := [(4, .int (nI (x + 1))), (1, .int (nI 1)), (0, .ref (B + 26)), (2, .int (nI li)), (3, .int (nI pr))]) hx hb dX5_spread_89 hl (k := 4) rfl (nI_1 _) (by decide) rfl (fun ls hl => ?_)
                                  refine lv_goto (tgt := 31) hx hb dX5_spread_92 (by decide) ?_
                                  exact ih31 (x + 1) 1 (upd g2 pr (nI 1)) (by omega) (by first | omega | grind) (hf2.add c15 c47 (by omega) ⟨x, by omega, (md_ref (by omega) (by omega)).mpr c77, c57⟩) (hs.set (by omega) c66) _ _ _ q26 q30 q31 f6 q33 q34 q35 q36 frm hP ls (lv_sub hl [2, 1, 3, 4, 0] rfl)
                    exact lp31 (n + 1) 0 m2 g2 (Nat.lt_succ_of_le (by omega)) (by first | omega | grind) hf2 (hs.same (fun l p q z => by omega)) _ _ _ q26 q30 q31 q32 q33 q34 q35 q36 frm hP ls (lv_sub hl [1, 2, 3, 4, 0] rfl)
              exact lp20 (n + 1) 0 m2 g2 (Nat.lt_succ_of_le (by omega)) (by first | omega | grind) hf2 (hs.same (fun l p q z => by omega)) _ _ _ q26 q30 q31 q32 q33 q34 q35 q36 frm hP ls (lv_sub hl [1, 2, 3, 0] rfl)
        exact lp10 (nL + 1) 0 0 g (Nat.lt_succ_of_le (by omega)) (by first | omega | grind) hfr (md_s3.rf (fun l p q z => absurd z.1 (Nat.not_lt_zero _))) _ _ _ q26 q30 q31 q32 q33 q34 q35 q36 frm hP ls (lv_sub hl [2, 1, 0] rfl)
  exact lp2 (25 + 1) 0 1 gn (Nat.lt_succ_of_le (by omega)) (by first | omega | grind) mt_from.rf (Or.inr ⟨rfl, Nat.zero_le _⟩) _ _ _ q26 q30 q31 q32 q33 q34 q35 q36 frm hP ls (lv_sub hl [1, 0] rfl)

abbrev rm_X5_loosen : Room := { frames := 1, cells := 0, slots := 0, locals := 24 }
set_option maxHeartbeats 4000000 in
set_option maxRecDepth 100000 in
theorem c_X5_loosen (l : Launch) (G : kl_G) (B : Nat) (w : kl_M) {nT nL nS nC nW nM n on : Nat} {ec rs hi : Int32} {D oO oD gn : Nat → Int32} {lch : Nat → Int32} {lco : Nat → Nat} {lpa lwy : Nat → Int32} (q26 : w 26 = some (.inr (5, [.int ec, .int rs, .int (nI nT), .ref (B + 27), .int (nI n), .ref (B + 28), .ref (B + 29), .int (nI on), .ref (B + 30), .ref (B + 31), .ref (B + 32), .int (nI nL), .ref (B + 33), .ref (B + 34), .ref (B + 35), .ref (B + 36), .int (nI nS), .ref (B + 37), .ref (B + 38), .int (nI nC), .ref (B + 39), .ref (B + 40), .ref (B + 41), .int (nI nW), .ref (B + 42), .int hi, .ref (B + 43), .int (nI nM), .ref (B + 44), .ref (B + 45), .ref (B + 46)]))) (q29 : w 29 = some (kl_aI G 96 D)) (q30 : w 30 = some (kl_aI G 24 oO)) (q31 : w 31 = some (kl_aI G 96 oD)) (q32 : w 32 = some (kl_aZ G 24 gn)) (q33 : w 33 = some (kl_aI G 7 lch)) (q34 : w 34 = some (kl_aI G 7 ((fun t => nI (lco t))))) (q35 : w 35 = some (kl_aI G 7 lpa)) (q36 : w 36 = some (kl_aI G 7 lwy)) (hn : n ≤ 24) (hnL : nL ≤ 6) (hrl : ∀ j, j < nL → lch j ≠ -1 ∧ lpa j ≠ -1 ∧ lco j < 4 ∧ (lwy j = 0 ∨ lwy j = nI 1 ∨ lwy j = nI 2)) : Met l yX5_loosen wsX5_loosen rm_X5_loosen (kl_Pc G B w [.ref (B + 26)]) (kl_Qi G B (fun r w1 => ∃ d2 kp y, r = nI y ∧ w1 29 = some (kl_aI G 96 d2) ∧ md_wy kp y ∧ mt_wr n (fun l _ => l < nL) (fun l p => lwy l = nI 2 ∧ gn p = 0 ∧ mt_lost (md_T n oO) oD gn (lch l) (lco l) (lpa l) p) lco (fun _ => nI 0) D d2 ∧ mt_kp n (fun l _ => l < nL) (fun l p => lwy l = 0 ∧ gn p = 0 ∧ mt_lost (md_T n oO) oD gn (lch l) (lco l) (lpa l) p) kp ∧ ∀ j : Nat, j ≠ 29 → w1 j = w j)) 0 0 (kl_fr B) := by
  refine Met.ofW (cc := cX5_loosen) (maxL := 6) (ret := (some .int)) (by decide) rfl ?_
  intro pg e s m args below meth cd s₁ Bd hml hv
  obtain ⟨rfl, hP0, hK⟩ := hv
  have hx := Bd.exec
  have hb := Bd.bytes
  have hr := Bd.returns
  have hts := atoms_spec (ws := wsX5_loosen) Bd.pre
  have hown : s.vm.findClass RX5 = some m.cls := findClass_of_methodNamed Bd.named
  have hlocks := Bd.notSynchronized
  have hinX5 : ∀ w ∈ u_ws RX5 TX5 31, w ∈ wsX5_loosen := by decide +kernel
  have hP := kl_S.rf hP0
  have hl := lv_entry ([.ref (B + 26)]) (n := 6) (Nat.le_of_ble_eq_true rfl)
  rw [lg_entry_eq]
  generalize (lg_sl ([.ref (B + 26)]) ++ List.replicate (6 - (lg_sl ([.ref (B + 26)])).length) Slot.unset).toArray = ls at hl ⊢
  have hl : lv_has ls 6 [(0, .ref (B + 26))] := hl
  have frm : ∀ j : Nat, j ≠ 29 → w j = w j := fun j _ => rfl
  refine lv_iconst (v := nI 0) hx hb dX5_loosen_0 (by decide) ?_
  refine lv_istore_n (lv' := [(1, .int (nI 0)), (0, .ref (B + 26))]) hx hb dX5_loosen_1 rfl hl (by decide) rfl (fun ls hl => ?_)
  refine lv_aload_n hx hb dX5_loosen_2 rfl (lv_at hl 1 rfl) ?_
  refine kl_get (C := RX5) (T := TX5) (N := 31) (ci := 5) hx hb hts hinX5 hown hK hP q26 rfl 11 (by decide) (hts (.fieldLink RX5 106 "KinLedgerModel" "links" "I") (by decide +kernel)) (fun _ h9 => h9) rfl dX5_loosen_3 ?_
  refine lv_iconst (v := nI 1) hx hb dX5_loosen_6 (by decide) ?_
  refine lv_isub hx hb dX5_loosen_7 ?_
  refine lv_istore_n (lv' := [(2, .int (nI nL - nI 1)), (1, .int (nI 0)), (0, .ref (B + 26))]) hx hb dX5_loosen_8 rfl hl (by decide) rfl (fun ls hl => ?_)
  have lp9 : ∀ (n9 : Nat) (k : Nat) (y : Nat) (kv : Int32) (g : Nat → Int32), k < n9 → (k ≤ nL) → (md_wy kv y) → (mt_wr n (fun l p => k ≤ l ∧ l < nL) (fun l p => lwy l = nI 2 ∧ gn p = 0 ∧ mt_lost (md_T n oO) oD gn (lch l) (lco l) (lpa l) p) lco (fun _ => nI 0) D g) → (mt_kp n (fun l p => k ≤ l ∧ l < nL) (fun l p => lwy l = 0 ∧ gn p = 0 ∧ mt_lost (md_T n oO) oD gn (lch l) (lco l) (lpa l) p) kv) → ∀ (w1 : kl_M) (H : Heap) (locs : List Loc), w1 26 = some (.inr (5, [.int ec, .int rs, .int (nI nT), .ref (B + 27), .int (nI n), .ref (B + 28), .ref (B + 29), .int (nI on), .ref (B + 30), .ref (B + 31), .ref (B + 32), .int (nI nL), .ref (B + 33), .ref (B + 34), .ref (B + 35), .ref (B + 36), .int (nI nS), .ref (B + 37), .ref (B + 38), .int (nI nC), .ref (B + 39), .ref (B + 40), .ref (B + 41), .int (nI nW), .ref (B + 42), .int hi, .ref (B + 43), .int (nI nM), .ref (B + 44), .ref (B + 45), .ref (B + 46)])) → w1 29 = some (kl_aI G 96 g) → w1 30 = some (kl_aI G 24 oO) → w1 31 = some (kl_aI G 96 oD) → w1 32 = some (kl_aZ G 24 gn) → w1 33 = some (kl_aI G 7 lch) → w1 34 = some (kl_aI G 7 ((fun t => nI (lco t)))) → w1 35 = some (kl_aI G 7 lpa) → w1 36 = some (kl_aI G 7 lwy) → (∀ j : Nat, j ≠ 29 → w1 j = w j) → kl_S G B w1 s.heap H locs → ∀ ls : Array Slot, lv_has ls 6 [(0, .ref (B + 26)), (1, .int (nI y)), (2, .int (nI k - nI 1))] → W pg l e rm_X5_loosen s m ([.ref (B + 26)] : List Value).toArray below meth cd H locs (0) (0) (MQ below (kl_Qi G B (fun r w1 => ∃ d2 kp y, r = nI y ∧ w1 29 = some (kl_aI G 96 d2) ∧ md_wy kp y ∧ mt_wr n (fun l _ => l < nL) (fun l p => lwy l = nI 2 ∧ gn p = 0 ∧ mt_lost (md_T n oO) oD gn (lch l) (lco l) (lpa l) p) lco (fun _ => nI 0) D d2 ∧ mt_kp n (fun l _ => l < nL) (fun l p => lwy l = 0 ∧ gn p = 0 ∧ mt_lost (md_T n oO) oD gn (lch l) (lco l) (lpa l) p) kp ∧ ∀ j : Nat, j ≠ 29 → w1 j = w j)) ([.ref (B + 26)] : List Value).toArray s 0 0 (kl_fr B)) (F0 m 9 ls []) := by
    intro n9
    induction n9 with
    | zero => intro k y kv g hm; exact absurd hm (Nat.not_lt_zero _)
    | succ n9 ih9 =>
      intro k y kv g hm hk hwy hw hkp w1 H locs q26 q29 q30 q31 q32 q33 q34 q35 q36 frm hP ls hl
      have hyl := hwy.le
      rcases k with _ | k
      · refine lv_iload_n hx hb dX5_loosen_9 rfl (lv_at hl 2 rfl) ?_
        refine lv_if_lt (tgt := 140) hx hb dX5_loosen_10 (by decide) (fun c10 => ?_) (fun c10 => absurd (by decide) c10)
        refine lv_iload_n hx hb dX5_loosen_140 rfl (lv_at hl 1 rfl) ?_
        exact kl_iret hx hb hr hlocks hP ⟨g, _, y, rfl, q29, hwy, hw.same (fun l p hp => by omega), hkp.same (fun l p hp => by omega), frm⟩ dX5_loosen_141
      · rw [mt_pred k] at hl
        refine lv_iload_n hx hb dX5_loosen_9 rfl (lv_at hl 2 rfl) ?_
        refine kl_z_lt (tgt := 140) hx hb (by omega) dX5_loosen_10 (by decide) ?_
        refine lv_iconst (v := nI 0) hx hb dX5_loosen_13 (by decide) ?_
        refine lv_istore_n (lv' := [(3, .int (nI 0)), (0, .ref (B + 26)), (1, .int (nI y)), (2, .int (nI k))]) hx hb dX5_loosen_14 rfl hl (by decide) rfl (fun ls hl => ?_)
        have lp15 : ∀ (n15 : Nat) (x : Nat) (y : Nat) (kv : Int32) (g : Nat → Int32), n - x < n15 → (x ≤ n) → (md_wy kv y) → (mt_wr n (fun l p => (k < l ∧ l < nL) ∨ (l = k ∧ p < x)) (fun l p => lwy l = nI 2 ∧ gn p = 0 ∧ mt_lost (md_T n oO) oD gn (lch l) (lco l) (lpa l) p) lco (fun _ => nI 0) D g) → (mt_kp n (fun l p => (k < l ∧ l < nL) ∨ (l = k ∧ p < x)) (fun l p => lwy l = 0 ∧ gn p = 0 ∧ mt_lost (md_T n oO) oD gn (lch l) (lco l) (lpa l) p) kv) → ∀ (w1 : kl_M) (H : Heap) (locs : List Loc), w1 26 = some (.inr (5, [.int ec, .int rs, .int (nI nT), .ref (B + 27), .int (nI n), .ref (B + 28), .ref (B + 29), .int (nI on), .ref (B + 30), .ref (B + 31), .ref (B + 32), .int (nI nL), .ref (B + 33), .ref (B + 34), .ref (B + 35), .ref (B + 36), .int (nI nS), .ref (B + 37), .ref (B + 38), .int (nI nC), .ref (B + 39), .ref (B + 40), .ref (B + 41), .int (nI nW), .ref (B + 42), .int hi, .ref (B + 43), .int (nI nM), .ref (B + 44), .ref (B + 45), .ref (B + 46)])) → w1 29 = some (kl_aI G 96 g) → w1 30 = some (kl_aI G 24 oO) → w1 31 = some (kl_aI G 96 oD) → w1 32 = some (kl_aZ G 24 gn) → w1 33 = some (kl_aI G 7 lch) → w1 34 = some (kl_aI G 7 ((fun t => nI (lco t)))) → w1 35 = some (kl_aI G 7 lpa) → w1 36 = some (kl_aI G 7 lwy) → (∀ j : Nat, j ≠ 29 → w1 j = w j) → kl_S G B w1 s.heap H locs → ∀ ls : Array Slot, lv_has ls 6 [(0, .ref (B + 26)), (1, .int (nI y)), (2, .int (nI k)), (3, .int (nI x))] → W pg l e rm_X5_loosen s m ([.ref (B + 26)] : List Value).toArray below meth cd H locs (0) (0) (MQ below (kl_Qi G B (fun r w1 => ∃ d2 kp y, r = nI y ∧ w1 29 = some (kl_aI G 96 d2) ∧ md_wy kp y ∧ mt_wr n (fun l _ => l < nL) (fun l p => lwy l = nI 2 ∧ gn p = 0 ∧ mt_lost (md_T n oO) oD gn (lch l) (lco l) (lpa l) p) lco (fun _ => nI 0) D d2 ∧ mt_kp n (fun l _ => l < nL) (fun l p => lwy l = 0 ∧ gn p = 0 ∧ mt_lost (md_T n oO) oD gn (lch l) (lco l) (lpa l) p) kp ∧ ∀ j : Nat, j ≠ 29 → w1 j = w j)) ([.ref (B + 26)] : List Value).toArray s 0 0 (kl_fr B)) (F0 m 15 ls []) := by
          intro n15
          induction n15 with
          | zero => intro x y kv g hm; exact absurd hm (Nat.not_lt_zero _)
          | succ n15 ih15 =>
            intro x y kv g hm hx9 hwy hw hkp w1 H locs q26 q29 q30 q31 q32 q33 q34 q35 q36 frm hP ls hl
            have hyl := hwy.le
            refine lv_iload_n hx hb dX5_loosen_15 rfl (lv_at hl 3 rfl) ?_
            refine lv_aload_n hx hb dX5_loosen_16 rfl (lv_at hl 0 rfl) ?_
            refine kl_get (C := RX5) (T := TX5) (N := 31) (ci := 5) hx hb hts hinX5 hown hK hP q26 rfl 4 (by decide) (hts (.fieldLink RX5 82 "KinLedgerModel" "rows" "I") (by decide +kernel)) (fun _ h9 => h9) rfl dX5_loosen_17 ?_
            refine kl_ge (tgt := 134) hx hb (by omega) (by omega) dX5_loosen_20 (by decide) (fun c20 => ?_) (fun c20 => ?_)
            · refine lv_iinc (v := nI k - nI 1) (lv' := [(2, .int (nI k - nI 1)), (0, .ref (B + 26)), (1, .int (nI y)), (3, .int (nI x))]) hx hb dX5_loosen_134 hl (k := 2) rfl (mt_dec _) (by decide) rfl (fun ls hl => ?_)
              refine lv_goto (tgt := 9) hx hb dX5_loosen_137 (by decide) ?_
              exact ih9 k y kv g (by omega) (by first | omega | grind) hwy (hw.same (fun l p hp => by omega)) (hkp.same (fun l p hp => by omega)) _ _ _ q26 q29 q30 q31 q32 q33 q34 q35 q36 frm hP ls (lv_sub hl [1, 2, 0] rfl)
            · refine lv_iconst (v := nI 0) hx hb dX5_loosen_23 (by decide) ?_
              refine lv_istore (lv' := [(4, .int (nI 0)), (0, .ref (B + 26)), (1, .int (nI y)), (2, .int (nI k)), (3, .int (nI x))]) hx hb dX5_loosen_24 hl (by decide) rfl (fun ls hl => ?_)
              have lp26 : ∀ (n26 : Nat) (z9 : Nat) (y : Nat) (kv : Int32) (g : Nat → Int32), n - z9 < n26 → (z9 ≤ n) → (md_wy kv y) → (mt_wr n (md_D k nL x (md_lx (md_T n oO) oD gn (lch k) (lco k) (lpa k) x z9)) (fun l p => lwy l = nI 2 ∧ gn p = 0 ∧ mt_lost (md_T n oO) oD gn (lch l) (lco l) (lpa l) p) lco (fun _ => nI 0) D g) → (mt_kp n (md_D k nL x (md_lx (md_T n oO) oD gn (lch k) (lco k) (lpa k) x z9)) (fun l p => lwy l = 0 ∧ gn p = 0 ∧ mt_lost (md_T n oO) oD gn (lch l) (lco l) (lpa l) p) kv) → ∀ (w1 : kl_M) (H : Heap) (locs : List Loc), w1 26 = some (.inr (5, [.int ec, .int rs, .int (nI nT), .ref (B + 27), .int (nI n), .ref (B + 28), .ref (B + 29), .int (nI on), .ref (B + 30), .ref (B + 31), .ref (B + 32), .int (nI nL), .ref (B + 33), .ref (B + 34), .ref (B + 35), .ref (B + 36), .int (nI nS), .ref (B + 37), .ref (B + 38), .int (nI nC), .ref (B + 39), .ref (B + 40), .ref (B + 41), .int (nI nW), .ref (B + 42), .int hi, .ref (B + 43), .int (nI nM), .ref (B + 44), .ref (B + 45), .ref (B + 46)])) → w1 29 = some (kl_aI G 96 g) → w1 30 = some (kl_aI G 24 oO) → w1 31 = some (kl_aI G 96 oD) → w1 32 = some (kl_aZ G 24 gn) → w1 33 = some (kl_aI G 7 lch) → w1 34 = some (kl_aI G 7 ((fun t => nI (lco t)))) → w1 35 = some (kl_aI G 7 lpa) → w1 36 = some (kl_aI G 7 lwy) → (∀ j : Nat, j ≠ 29 → w1 j = w j) → kl_S G B w1 s.heap H locs → ∀ ls : Array Slot, lv_has ls 6 [(0, .ref (B + 26)), (1, .int (nI y)), (2, .int (nI k)), (3, .int (nI x)), (4, .int (nI z9))] → W pg l e rm_X5_loosen s m ([.ref (B + 26)] : List Value).toArray below meth cd H locs (0) (0) (MQ below (kl_Qi G B (fun r w1 => ∃ d2 kp y, r = nI y ∧ w1 29 = some (kl_aI G 96 d2) ∧ md_wy kp y ∧ mt_wr n (fun l _ => l < nL) (fun l p => lwy l = nI 2 ∧ gn p = 0 ∧ mt_lost (md_T n oO) oD gn (lch l) (lco l) (lpa l) p) lco (fun _ => nI 0) D d2 ∧ mt_kp n (fun l _ => l < nL) (fun l p => lwy l = 0 ∧ gn p = 0 ∧ mt_lost (md_T n oO) oD gn (lch l) (lco l) (lpa l) p) kp ∧ ∀ j : Nat, j ≠ 29 → w1 j = w j)) ([.ref (B + 26)] : List Value).toArray s 0 0 (kl_fr B)) (F0 m 26 ls []) := by
                intro n26
                induction n26 with
                | zero => intro z9 y kv g hm; exact absurd hm (Nat.not_lt_zero _)
                | succ n26 ih26 =>
                  intro z9 y kv g hm hz9 hwy hw hkp w1 H locs q26 q29 q30 q31 q32 q33 q34 q35 q36 frm hP ls hl
                  have hyl := hwy.le
                  refine lv_iload hx hb dX5_loosen_26 (lv_at hl 4 rfl) ?_
                  refine lv_aload_n hx hb dX5_loosen_28 rfl (lv_at hl 0 rfl) ?_
                  refine kl_get (C := RX5) (T := TX5) (N := 31) (ci := 5) hx hb hts hinX5 hown hK hP q26 rfl 4 (by decide) (hts (.fieldLink RX5 82 "KinLedgerModel" "rows" "I") (by decide +kernel)) (fun _ h9 => h9) rfl dX5_loosen_29 ?_
                  refine kl_ge (tgt := 128) hx hb (by omega) (by omega) dX5_loosen_32 (by decide) (fun c32 => ?_) (fun c32 => ?_)
                  · refine lv_iinc (v := nI (x + 1)) (lv' := [(3, .int (nI (x + 1))), (0, .ref (B + 26)), (1, .int (nI y)), (2, .int (nI k)), (4, .int (nI z9))]) hx hb dX5_loosen_128 hl (k := 3) rfl (nI_1 _) (by decide) rfl (fun ls hl => ?_)
                    refine lv_goto (tgt := 15) hx hb dX5_loosen_131 (by decide) ?_
                    exact ih15 (x + 1) y kv g (by omega) (by first | omega | grind) hwy (md_wr_row hw (by omega) (by omega) (fun z => by rw [show z9 = n by omega]; exact (md_lx_l hn (hrl k (by omega)).2.1).mpr z.2.2)) (md_kp_row hkp (by omega) (by omega) (fun z => by rw [show z9 = n by omega]; exact (md_lx_l hn (hrl k (by omega)).2.1).mpr z.2.2)) _ _ _ q26 q29 q30 q31 q32 q33 q34 q35 q36 frm hP ls (lv_sub hl [1, 2, 3, 0] rfl)
                  · refine lv_aload_n hx hb dX5_loosen_35 rfl (lv_at hl 0 rfl) ?_
                    refine kl_get (C := RX5) (T := TX5) (N := 31) (ci := 5) hx hb hts hinX5 hown hK hP q26 rfl 10 (by decide) (hts (.fieldLink RX5 25 "KinLedgerModel" "gone" "[Z") (by decide +kernel)) (fun _ h9 => h9) rfl dX5_loosen_36 ?_
                    refine lv_iload hx hb dX5_loosen_39 (lv_at hl 4 rfl) ?_
                    refine kl_zald hx hb hK hP q32 (by omega) (by omega) dX5_loosen_41 ?_
                    refine lv_if_eq (tgt := 69) hx hb dX5_loosen_42 (by decide) (fun c42 => ?_) (fun c42 => ?_)
                    · refine lv_iconst (v := nI 0) hx hb dX5_loosen_69 (by decide) ?_
                      refine lv_istore (lv' := [(5, .int (nI 0)), (0, .ref (B + 26)), (1, .int (nI y)), (2, .int (nI k)), (3, .int (nI x)), (4, .int (nI z9))]) hx hb dX5_loosen_70 hl (by decide) rfl (fun ls hl => ?_)
                      refine lv_iload hx hb dX5_loosen_72 (lv_at hl 0 rfl) ?_
                      refine kl_z_eq (tgt := 91) hx hb (by omega) dX5_loosen_74 (by decide) (fun c74 => ?_) (fun c74 => absurd c74 (by omega))
                      refine lv_iload hx hb dX5_loosen_91 (lv_at hl 0 rfl) ?_
                      refine kl_z_eq (tgt := 122) hx hb (by omega) dX5_loosen_93 (by decide) (fun c93 => ?_) (fun c93 => absurd c93 (by omega))
                      refine lv_iinc (v := nI (z9 + 1)) (lv' := [(4, .int (nI (z9 + 1))), (5, .int (nI 0)), (0, .ref (B + 26)), (1, .int (nI y)), (2, .int (nI k)), (3, .int (nI x))]) hx hb dX5_loosen_122 hl (k := 5) rfl (nI_1 _) (by decide) rfl (fun ls hl => ?_)
                      refine lv_goto (tgt := 26) hx hb dX5_loosen_125 (by decide) ?_
                      exact ih26 (z9 + 1) y kv g (by omega) (by first | omega | grind) hwy (md_wr_if hw md_lx_m (fun _ z => (md_lx_n (fun y => y.2 c42)).mp z)) (md_kp_if hkp md_lx_m (fun _ z => (md_lx_n (fun y => y.2 c42)).mp z)) _ _ _ q26 q29 q30 q31 q32 q33 q34 q35 q36 frm hP ls (lv_sub hl [2, 3, 4, 5, 0] rfl)
                    · refine lv_aload_n hx hb dX5_loosen_45 rfl (lv_at hl 0 rfl) ?_
                      refine kl_get (C := RX5) (T := TX5) (N := 31) (ci := 5) hx hb hts hinX5 hown hK hP q26 rfl 10 (by decide) (hts (.fieldLink RX5 25 "KinLedgerModel" "gone" "[Z") (by decide +kernel)) (fun _ h9 => h9) rfl dX5_loosen_46 ?_
                      refine lv_iload_n hx hb dX5_loosen_49 rfl (lv_at hl 3 rfl) ?_
                      refine kl_zald hx hb hK hP q32 (by omega) (by omega) dX5_loosen_50 ?_
                      refine lv_if_ne (tgt := 69) hx hb dX5_loosen_51 (by decide) (fun c51 => ?_) (fun c51 => ?_)
                      · refine lv_iconst (v := nI 0) hx hb dX5_loosen_69 (by decide) ?_
                        refine lv_istore (lv' := [(5, .int (nI 0)), (0, .ref (B + 26)), (1, .int (nI y)), (2, .int (nI k)), (3, .int (nI x)), (4, .int (nI z9))]) hx hb dX5_loosen_70 hl (by decide) rfl (fun ls hl => ?_)
                        refine lv_iload hx hb dX5_loosen_72 (lv_at hl 0 rfl) ?_
                        refine kl_z_eq (tgt := 91) hx hb (by omega) dX5_loosen_74 (by decide) (fun c74 => ?_) (fun c74 => absurd c74 (by omega))
                        refine lv_iload hx hb dX5_loosen_91 (lv_at hl 0 rfl) ?_
                        refine kl_z_eq (tgt := 122) hx hb (by omega) dX5_loosen_93 (by decide) (fun c93 => ?_) (fun c93 => absurd c93 (by omega))
                        refine lv_iinc (v := nI (z9 + 1)) (lv' := [(4, .int (nI (z9 + 1))), (5, .int (nI 0)), (0, .ref (B + 26)), (1, .int (nI y)), (2, .int (nI k)), (3, .int (nI x))]) hx hb dX5_loosen_122 hl (k := 5) rfl (nI_1 _) (by decide) rfl (fun ls hl => ?_)
                        refine lv_goto (tgt := 26) hx hb dX5_loosen_125 (by decide) ?_
                        exact ih26 (z9 + 1) y kv g (by omega) (by first | omega | grind) hwy (md_wr_if hw md_lx_m (fun y _ => absurd y.2.1 c51)) (md_kp_if hkp md_lx_m (fun y _ => absurd y.2.1 c51)) _ _ _ q26 q29 q30 q31 q32 q33 q34 q35 q36 frm hP ls (lv_sub hl [2, 3, 4, 5, 0] rfl)
                      · refine lv_aload_n hx hb dX5_loosen_54 rfl (lv_at hl 0 rfl) ?_
                        refine lv_iload_n hx hb dX5_loosen_55 rfl (lv_at hl 2 rfl) ?_
                        refine lv_iload_n hx hb dX5_loosen_56 rfl (lv_at hl 3 rfl) ?_
                        refine lv_iload hx hb dX5_loosen_57 (lv_at hl 4 rfl) ?_
                        refine kl_cVi (C := RX5) (i := 26) (As := [.int (nI k), .int (nI x), .int (nI z9)]) (rest := []) ⟨hx, hb, hml, hown, hts⟩ (c_X5_referred l G B _ k x z9 q26 q30 q31 q33 q34 q35 (by omega) (by omega) (by omega) (hrl k (by omega)).2.2.1) (cwV 3 hts gX5_loosen_X5_referred rfl rfl rfl (by decide +kernel) ⟨Nat.le_of_ble_eq_true rfl, Nat.le_of_ble_eq_true rfl⟩) hK hP q26 rfl rfl hl.1 rfl (Nat.le_of_ble_eq_true rfl) dX5_loosen_59 ⟨Nat.le_of_ble_eq_true rfl, Nat.le_of_ble_eq_true rfl⟩ (fun r3 w1 H locs q2 hP => ?_)
                        obtain ⟨rfl, hv4⟩ := q2
                        refine kl_ifeq (tgt := 69) hx hb hv4 dX5_loosen_62 (by decide) (fun c62 => ?_) (fun c62 => ?_)
                        · refine lv_iconst (v := nI 0) hx hb dX5_loosen_69 (by decide) ?_
                          refine lv_istore (lv' := [(5, .int (nI 0)), (0, .ref (B + 26)), (1, .int (nI y)), (2, .int (nI k)), (3, .int (nI x)), (4, .int (nI z9))]) hx hb dX5_loosen_70 hl (by decide) rfl (fun ls hl => ?_)
                          refine lv_iload hx hb dX5_loosen_72 (lv_at hl 0 rfl) ?_
                          refine kl_z_eq (tgt := 91) hx hb (by omega) dX5_loosen_74 (by decide) (fun c74 => ?_) (fun c74 => absurd c74 (by omega))
                          refine lv_iload hx hb dX5_loosen_91 (lv_at hl 0 rfl) ?_
                          refine kl_z_eq (tgt := 122) hx hb (by omega) dX5_loosen_93 (by decide) (fun c93 => ?_) (fun c93 => absurd c93 (by omega))
                          refine lv_iinc (v := nI (z9 + 1)) (lv' := [(4, .int (nI (z9 + 1))), (5, .int (nI 0)), (0, .ref (B + 26)), (1, .int (nI y)), (2, .int (nI k)), (3, .int (nI x))]) hx hb dX5_loosen_122 hl (k := 5) rfl (nI_1 _) (by decide) rfl (fun ls hl => ?_)
                          refine lv_goto (tgt := 26) hx hb dX5_loosen_125 (by decide) ?_
                          exact ih26 (z9 + 1) y kv g (by omega) (by first | omega | grind) hwy (md_wr_if hw md_lx_m (fun _ z => (md_lx_n (fun y => c62 ((md_ref (by omega) (by omega)).mp y.1))).mp z)) (md_kp_if hkp md_lx_m (fun _ z => (md_lx_n (fun y => c62 ((md_ref (by omega) (by omega)).mp y.1))).mp z)) _ _ _ q26 q29 q30 q31 q32 q33 q34 q35 q36 frm hP ls (lv_sub hl [2, 3, 4, 5, 0] rfl)
                        · refine lv_iconst (v := nI 1) hx hb dX5_loosen_65 (by decide) ?_
                          refine lv_goto (tgt := 70) hx hb dX5_loosen_66 (by decide) ?_
                          refine lv_istore (lv' := [(5, .int (nI 1)), (0, .ref (B + 26)), (1, .int (nI y)), (2, .int (nI k)), (3, .int (nI x)), (4, .int (nI z9))]) hx hb dX5_loosen_70 hl (by decide) rfl (fun ls hl => ?_)
                          refine lv_iload hx hb dX5_loosen_72 (lv_at hl 0 rfl) ?_
                          refine kl_z_eq (tgt := 91) hx hb (by omega) dX5_loosen_74 (by decide) (fun c74 => absurd c74 (by omega)) (fun c74 => ?_)
                          refine lv_aload_n hx hb dX5_loosen_77 rfl (lv_at hl 1 rfl) ?_
                          refine kl_get (C := RX5) (T := TX5) (N := 31) (ci := 5) hx hb hts hinX5 hown hK hP q26 rfl 15 (by decide) (hts (.fieldLink RX5 38 "KinLedgerModel" "ways" "[I") (by decide +kernel)) (fun _ h9 => h9) rfl dX5_loosen_78 ?_
                          refine lv_iload_n hx hb dX5_loosen_81 rfl (lv_at hl 3 rfl) ?_
                          refine kl_iald hx hb hK hP q36 (by omega) (by omega) dX5_loosen_82 ?_
                          refine lv_if_ne (tgt := 91) hx hb dX5_loosen_83 (by decide) (fun c83 => ?_) (fun c83 => ?_)
                          · refine lv_iload hx hb dX5_loosen_91 (lv_at hl 0 rfl) ?_
                            refine kl_z_eq (tgt := 122) hx hb (by omega) dX5_loosen_93 (by decide) (fun c93 => absurd c93 (by omega)) (fun c93 => ?_)
                            refine lv_aload_n hx hb dX5_loosen_96 rfl (lv_at hl 1 rfl) ?_
                            refine kl_get (C := RX5) (T := TX5) (N := 31) (ci := 5) hx hb hts hinX5 hown hK hP q26 rfl 15 (by decide) (hts (.fieldLink RX5 38 "KinLedgerModel" "ways" "[I") (by decide +kernel)) (fun _ h9 => h9) rfl dX5_loosen_97 ?_
                            refine lv_iload_n hx hb dX5_loosen_100 rfl (lv_at hl 3 rfl) ?_
                            refine kl_iald hx hb hK hP q36 (by omega) (by omega) dX5_loosen_101 ?_
                            refine lv_iconst (v := nI 2) hx hb dX5_loosen_102 (by decide) ?_
                            refine lv_icmp_ne (tgt := 122) hx hb dX5_loosen_103 (by decide) (fun c103 => ?_) (fun c103 => ?_)
                            · refine lv_iinc (v := nI (z9 + 1)) (lv' := [(4, .int (nI (z9 + 1))), (5, .int (nI 1)), (0, .ref (B + 26)), (1, .int (nI y)), (2, .int (nI k)), (3, .int (nI x))]) hx hb dX5_loosen_122 hl (k := 5) rfl (nI_1 _) (by decide) rfl (fun ls hl => ?_)
                              refine lv_goto (tgt := 26) hx hb dX5_loosen_125 (by decide) ?_
                              exact ih26 (z9 + 1) y kv g (by omega) (by first | omega | grind) hwy (hw.no (l0 := k) (x := x) (fun l p _ => md_D_add (md_lx_y ⟨(md_ref (by omega) (by omega)).mpr c62, c42⟩) l p) (fun z => c103 z.1)) (hkp.no (l0 := k) (x := x) (fun l p _ => md_D_add (md_lx_y ⟨(md_ref (by omega) (by omega)).mpr c62, c42⟩) l p) (fun z => c83 z.1)) _ _ _ q26 q29 q30 q31 q32 q33 q34 q35 q36 frm hP ls (lv_sub hl [2, 3, 4, 5, 0] rfl)
                            · have hlk4 := (hrl k (by omega)).2.2.1
                              refine lv_aload_n hx hb dX5_loosen_106 rfl (lv_at hl 1 rfl) ?_
                              refine kl_get (C := RX5) (T := TX5) (N := 31) (ci := 5) hx hb hts hinX5 hown hK hP q26 rfl 6 (by decide) (hts (.fieldLink RX5 16 "KinLedgerModel" "cells" "[I") (by decide +kernel)) (fun _ h9 => h9) rfl dX5_loosen_107 ?_
                              refine lv_iconst (v := nI 4) hx hb dX5_loosen_110 (by decide) ?_
                              refine lv_iload_n hx hb dX5_loosen_111 rfl (lv_at hl 4 rfl) ?_
                              refine lv_imul hx hb dX5_loosen_112 ?_
                              refine kl_top (z := nI (4 * x)) (pk_mul _ _) ?_
                              refine lv_aload_n hx hb dX5_loosen_113 rfl (lv_at hl 1 rfl) ?_
                              refine kl_get (C := RX5) (T := TX5) (N := 31) (ci := 5) hx hb hts hinX5 hown hK hP q26 rfl 13 (by decide) (hts (.fieldLink RX5 32 "KinLedgerModel" "linkColumn" "[I") (by decide +kernel)) (fun _ h9 => h9) rfl dX5_loosen_114 ?_
                              refine lv_iload_n hx hb dX5_loosen_117 rfl (lv_at hl 3 rfl) ?_
                              refine kl_iald hx hb hK hP q34 (by omega) (by omega) dX5_loosen_118 ?_
                              refine kl_top (z := nI (lco k)) rfl ?_
                              refine lv_iadd hx hb dX5_loosen_119 ?_
                              refine kl_top (z := nI (4 * x + lco k)) (by first | exact nI_add _ _ | (rw [nI_add]; first | rfl | (congr 1; omega))) ?_
                              refine lv_iconst (v := nI 0) hx hb dX5_loosen_120 (by decide) ?_
                              refine kl_iast hx hb hK hP q29 (by omega) (by omega) dX5_loosen_121 (fun w5 H locs f6 fr7 hzw5 hP => ?_)
                              have q26 : w5 26 = some (.inr (5, [.int ec, .int rs, .int (nI nT), .ref (B + 27), .int (nI n), .ref (B + 28), .ref (B + 29), .int (nI on), .ref (B + 30), .ref (B + 31), .ref (B + 32), .int (nI nL), .ref (B + 33), .ref (B + 34), .ref (B + 35), .ref (B + 36), .int (nI nS), .ref (B + 37), .ref (B + 38), .int (nI nC), .ref (B + 39), .ref (B + 40), .ref (B + 41), .int (nI nW), .ref (B + 42), .int hi, .ref (B + 43), .int (nI nM), .ref (B + 44), .ref (B + 45), .ref (B + 46)])) := (fr7 _ (by decide)).trans q26
                              have q30 : w5 30 = some (kl_aI G 24 oO) := (fr7 _ (by decide)).trans q30
                              have q31 : w5 31 = some (kl_aI G 96 oD) := (fr7 _ (by decide)).trans q31
                              have q32 : w5 32 = some (kl_aZ G 24 gn) := (fr7 _ (by decide)).trans q32
                              have q33 : w5 33 = some (kl_aI G 7 lch) := (fr7 _ (by decide)).trans q33
                              have q34 : w5 34 = some (kl_aI G 7 ((fun t => nI (lco t)))) := (fr7 _ (by decide)).trans q34
                              have q35 : w5 35 = some (kl_aI G 7 lpa) := (fr7 _ (by decide)).trans q35
                              have q36 : w5 36 = some (kl_aI G 7 lwy) := (fr7 _ (by decide)).trans q36
                              have frm : ∀ j : Nat, j ≠ 29 → w5 j = w j := fun j k0 => (fr7 j k0).trans (frm j k0)
                              refine lv_iinc (v := nI (z9 + 1)) (lv' := [(4, .int (nI (z9 + 1))), (5, .int (nI 1)), (0, .ref (B + 26)), (1, .int (nI y)), (2, .int (nI k)), (3, .int (nI x))]) hx hb dX5_loosen_122 hl (k := 5) rfl (nI_1 _) (by decide) rfl (fun ls hl => ?_)
                              refine lv_goto (tgt := 26) hx hb dX5_loosen_125 (by decide) ?_
                              exact ih26 (z9 + 1) y kv (upd g (4 * x + lco k) (nI 0)) (by omega) (by first | omega | grind) hwy (hw.put (l0 := k) (x := x) rfl (by omega) (fun l p _ => md_D_add (md_lx_y ⟨(md_ref (by omega) (by omega)).mpr c62, c42⟩) l p) (fun l z => md_D_le z) ⟨c103, c51, ⟨z9, by omega, (md_ref (by omega) (by omega)).mpr c62, c42⟩⟩ (hrl k (by omega)).2.2.1) (hkp.no (l0 := k) (x := x) (fun l p _ => md_D_add (md_lx_y ⟨(md_ref (by omega) (by omega)).mpr c62, c42⟩) l p) (fun z => c83 z.1)) _ _ _ q26 f6 q30 q31 q32 q33 q34 q35 q36 frm hP ls (lv_sub hl [2, 3, 4, 5, 0] rfl)
                          · refine lv_bipush (v := nI 100) hx hb dX5_loosen_86 (by decide) ?_
                            refine lv_iload_n hx hb dX5_loosen_88 rfl (lv_at hl 3 rfl) ?_
                            refine lv_iadd hx hb dX5_loosen_89 ?_
                            refine kl_top (z := nI (100 + k)) (by first | exact nI_add _ _ | (rw [nI_add]; first | rfl | (congr 1; omega))) ?_
                            refine lv_istore_n (lv' := [(1, .int (nI (100 + k))), (5, .int (nI 1)), (0, .ref (B + 26)), (2, .int (nI k)), (3, .int (nI x)), (4, .int (nI z9))]) hx hb dX5_loosen_90 rfl hl (by decide) rfl (fun ls hl => ?_)
                            refine lv_iload hx hb dX5_loosen_91 (lv_at hl 1 rfl) ?_
                            refine kl_z_eq (tgt := 122) hx hb (by omega) dX5_loosen_93 (by decide) (fun c93 => absurd c93 (by omega)) (fun c93 => ?_)
                            refine lv_aload_n hx hb dX5_loosen_96 rfl (lv_at hl 2 rfl) ?_
                            refine kl_get (C := RX5) (T := TX5) (N := 31) (ci := 5) hx hb hts hinX5 hown hK hP q26 rfl 15 (by decide) (hts (.fieldLink RX5 38 "KinLedgerModel" "ways" "[I") (by decide +kernel)) (fun _ h9 => h9) rfl dX5_loosen_97 ?_
                            refine lv_iload_n hx hb dX5_loosen_100 rfl (lv_at hl 3 rfl) ?_
                            refine kl_iald hx hb hK hP q36 (by omega) (by omega) dX5_loosen_101 ?_
                            refine lv_iconst (v := nI 2) hx hb dX5_loosen_102 (by decide) ?_
                            refine lv_icmp_ne (tgt := 122) hx hb dX5_loosen_103 (by decide) (fun c103 => ?_) (fun c103 => ?_)
                            · refine lv_iinc (v := nI (z9 + 1)) (lv' := [(4, .int (nI (z9 + 1))), (1, .int (nI (100 + k))), (5, .int (nI 1)), (0, .ref (B + 26)), (2, .int (nI k)), (3, .int (nI x))]) hx hb dX5_loosen_122 hl (k := 5) rfl (nI_1 _) (by decide) rfl (fun ls hl => ?_)
                              refine lv_goto (tgt := 26) hx hb dX5_loosen_125 (by decide) ?_
                              exact ih26 (z9 + 1) (100 + k) ((nI k)) g (by omega) (by first | omega | grind) (Or.inr ⟨k, by omega, rfl, rfl⟩) (hw.no (l0 := k) (x := x) (fun l p _ => md_D_add (md_lx_y ⟨(md_ref (by omega) (by omega)).mpr c62, c42⟩) l p) (fun z => c103 z.1)) (mt_kp.yes (D := (md_D k nL x (md_lx (md_T n oO) oD gn (lch k) (lco k) (lpa k) x z9))) (l0 := k) (x := x) (by omega) (fun l p _ => md_D_add (md_lx_y ⟨(md_ref (by omega) (by omega)).mpr c62, c42⟩) l p) (fun l p _ z => md_D_le z) ⟨c83, c51, ⟨z9, by omega, (md_ref (by omega) (by omega)).mpr c62, c42⟩⟩) _ _ _ q26 q29 q30 q31 q32 q33 q34 q35 q36 frm hP ls (lv_sub hl [3, 1, 4, 5, 0] rfl)
                            · have hlk4 := (hrl k (by omega)).2.2.1
                              refine lv_aload_n hx hb dX5_loosen_106 rfl (lv_at hl 2 rfl) ?_
                              refine kl_get (C := RX5) (T := TX5) (N := 31) (ci := 5) hx hb hts hinX5 hown hK hP q26 rfl 6 (by decide) (hts (.fieldLink RX5 16 "KinLedgerModel" "cells" "[I") (by decide +kernel)) (fun _ h9 => h9) rfl dX5_loosen_107 ?_
                              refine lv_iconst (v := nI 4) hx hb dX5_loosen_110 (by decide) ?_
                              refine lv_iload_n hx hb dX5_loosen_111 rfl (lv_at hl 4 rfl) ?_
                              refine lv_imul hx hb dX5_loosen_112 ?_
                              refine kl_top (z := nI (4 * x)) (pk_mul _ _) ?_
                              refine lv_aload_n hx hb dX5_loosen_113 rfl (lv_at hl 2 rfl) ?_
                              refine kl_get (C := RX5) (T := TX5) (N := 31) (ci := 5) hx hb hts hinX5 hown hK hP q26 rfl 13 (by decide) (hts (.fieldLink RX5 32 "KinLedgerModel" "linkColumn" "[I") (by decide +kernel)) (fun _ h9 => h9) rfl dX5_loosen_114 ?_
                              refine lv_iload_n hx hb dX5_loosen_117 rfl (lv_at hl 3 rfl) ?_
                              refine kl_iald hx hb hK hP q34 (by omega) (by omega) dX5_loosen_118 ?_
                              refine kl_top (z := nI (lco k)) rfl ?_
                              refine lv_iadd hx hb dX5_loosen_119 ?_
                              refine kl_top (z := nI (4 * x + lco k)) (by first | exact nI_add _ _ | (rw [nI_add]; first | rfl | (congr 1; omega))) ?_
                              refine lv_iconst (v := nI 0) hx hb dX5_loosen_120 (by decide) ?_
                              refine kl_iast hx hb hK hP q29 (by omega) (by omega) dX5_loosen_121 (fun w8 H locs f9 fr10 hzw8 hP => ?_)
                              have q26 : w8 26 = some (.inr (5, [.int ec, .int rs, .int (nI nT), .ref (B + 27), .int (nI n), .ref (B + 28), .ref (B + 29), .int (nI on), .ref (B + 30), .ref (B + 31), .ref (B + 32), .int (nI nL), .ref (B + 33), .ref (B + 34), .ref (B + 35), .ref (B + 36), .int (nI nS), .ref (B + 37), .ref (B + 38), .int (nI nC), .ref (B + 39), .ref (B + 40), .ref (B + 41), .int (nI nW), .ref (B + 42), .int hi, .ref (B + 43), .int (nI nM), .ref (B + 44), .ref (B + 45), .ref (B + 46)])) := (fr10 _ (by decide)).trans q26
                              have q30 : w8 30 = some (kl_aI G 24 oO) := (fr10 _ (by decide)).trans q30
                              have q31 : w8 31 = some (kl_aI G 96 oD) := (fr10 _ (by decide)).trans q31
                              have q32 : w8 32 = some (kl_aZ G 24 gn) := (fr10 _ (by decide)).trans q32
                              have q33 : w8 33 = some (kl_aI G 7 lch) := (fr10 _ (by decide)).trans q33
                              have q34 : w8 34 = some (kl_aI G 7 ((fun t => nI (lco t)))) := (fr10 _ (by decide)).trans q34
                              have q35 : w8 35 = some (kl_aI G 7 lpa) := (fr10 _ (by decide)).trans q35
                              have q36 : w8 36 = some (kl_aI G 7 lwy) := (fr10 _ (by decide)).trans q36
                              have frm : ∀ j : Nat, j ≠ 29 → w8 j = w j := fun j k0 => (fr10 j k0).trans (frm j k0)
                              refine lv_iinc (v := nI (z9 + 1)) (lv' := [(4, .int (nI (z9 + 1))), (1, .int (nI (100 + k))), (5, .int (nI 1)), (0, .ref (B + 26)), (2, .int (nI k)), (3, .int (nI x))]) hx hb dX5_loosen_122 hl (k := 5) rfl (nI_1 _) (by decide) rfl (fun ls hl => ?_)
                              refine lv_goto (tgt := 26) hx hb dX5_loosen_125 (by decide) ?_
                              exact ih26 (z9 + 1) (100 + k) ((nI k)) (upd g (4 * x + lco k) (nI 0)) (by omega) (by first | omega | grind) (Or.inr ⟨k, by omega, rfl, rfl⟩) (hw.put (l0 := k) (x := x) rfl (by omega) (fun l p _ => md_D_add (md_lx_y ⟨(md_ref (by omega) (by omega)).mpr c62, c42⟩) l p) (fun l z => md_D_le z) ⟨c103, c51, ⟨z9, by omega, (md_ref (by omega) (by omega)).mpr c62, c42⟩⟩ (hrl k (by omega)).2.2.1) (mt_kp.yes (D := (md_D k nL x (md_lx (md_T n oO) oD gn (lch k) (lco k) (lpa k) x z9))) (l0 := k) (x := x) (by omega) (fun l p _ => md_D_add (md_lx_y ⟨(md_ref (by omega) (by omega)).mpr c62, c42⟩) l p) (fun l p _ z => md_D_le z) ⟨c83, c51, ⟨z9, by omega, (md_ref (by omega) (by omega)).mpr c62, c42⟩⟩) _ _ _ q26 f9 q30 q31 q32 q33 q34 q35 q36 frm hP ls (lv_sub hl [3, 1, 4, 5, 0] rfl)
              exact lp26 (n + 1) 0 y kv g (Nat.lt_succ_of_le (by omega)) (by first | omega | grind) hwy (hw.same (fun l p _ => md_D_no md_lx_0 l p)) (hkp.same (fun l p _ => md_D_no md_lx_0 l p)) _ _ _ q26 q29 q30 q31 q32 q33 q34 q35 q36 frm hP ls (lv_sub hl [1, 2, 3, 4, 0] rfl)
        exact lp15 (n + 1) 0 y kv g (Nat.lt_succ_of_le (by omega)) (by first | omega | grind) hwy (hw.same (fun l p hp => by omega)) (hkp.same (fun l p hp => by omega)) _ _ _ q26 q29 q30 q31 q32 q33 q34 q35 q36 frm hP ls (lv_sub hl [1, 2, 3, 0] rfl)
  exact lp9 (nL + 1) nL 0 ((-1)) D (Nat.lt_succ_of_le (by omega)) (by first | omega | grind) (Or.inl ⟨rfl, rfl⟩) (mt_wr.rf (fun l p hp z => by omega)) (mt_kp.rf (fun l p hp z => by omega)) _ _ _ q26 q29 q30 q31 q32 q33 q34 q35 q36 frm hP ls (lv_sub hl [2, 1, 0] rfl)

abbrev rm_X5_rename : Room := { frames := 1, cells := 0, slots := 0, locals := 24 }
set_option maxHeartbeats 4000000 in
set_option maxRecDepth 100000 in
theorem c_X5_rename (l : Launch) (G : kl_G) (B : Nat) (w : kl_M) {nT nL nS nC nW nM n on : Nat} {ec rs hi : Int32} {D oO oD : Nat → Int32} {lch : Nat → Int32} {lco : Nat → Nat} {lpa lwy : Nat → Int32} (rw9 : Nat) (key : Int32) (q26 : w 26 = some (.inr (5, [.int ec, .int rs, .int (nI nT), .ref (B + 27), .int (nI n), .ref (B + 28), .ref (B + 29), .int (nI on), .ref (B + 30), .ref (B + 31), .ref (B + 32), .int (nI nL), .ref (B + 33), .ref (B + 34), .ref (B + 35), .ref (B + 36), .int (nI nS), .ref (B + 37), .ref (B + 38), .int (nI nC), .ref (B + 39), .ref (B + 40), .ref (B + 41), .int (nI nW), .ref (B + 42), .int hi, .ref (B + 43), .int (nI nM), .ref (B + 44), .ref (B + 45), .ref (B + 46)]))) (q29 : w 29 = some (kl_aI G 96 D)) (q30 : w 30 = some (kl_aI G 24 oO)) (q31 : w 31 = some (kl_aI G 96 oD)) (q33 : w 33 = some (kl_aI G 7 lch)) (q34 : w 34 = some (kl_aI G 7 ((fun t => nI (lco t))))) (q35 : w 35 = some (kl_aI G 7 lpa)) (q36 : w 36 = some (kl_aI G 7 lwy)) (hn : n ≤ 24) (hnL : nL ≤ 6) (hrw : rw9 < n) (hrl : ∀ j, j < nL → lch j ≠ -1 ∧ lpa j ≠ -1 ∧ lco j < 4 ∧ (lwy j = 0 ∨ lwy j = nI 1 ∨ lwy j = nI 2)) : Met l yX5_rename wsX5_rename rm_X5_rename (kl_Pc G B w [.ref (B + 26), .int (nI rw9), .int key]) (kl_Qi G B (fun r w1 => ∃ d2 kp y, r = nI y ∧ w1 29 = some (kl_aI G 96 d2) ∧ md_wy kp y ∧ mt_wr n (fun l _ => l < nL) (fun l p => lwy l ≠ 0 ∧ mt_ref (md_T n oO) oD (lch l) (lco l) (lpa l) p rw9) lco (fun l => if lwy l = nI 1 then key else nI 0) (upd D (4 * rw9) key) d2 ∧ mt_kp n (fun l _ => l < nL) (fun l p => lwy l = 0 ∧ mt_ref (md_T n oO) oD (lch l) (lco l) (lpa l) p rw9) kp ∧ ∀ j : Nat, j ≠ 29 → w1 j = w j)) 0 0 (kl_fr B) := by
  refine Met.ofW (cc := cX5_rename) (maxL := 7) (ret := (some .int)) (by decide) rfl ?_
  intro pg e s m args below meth cd s₁ Bd hml hv
  obtain ⟨rfl, hP0, hK⟩ := hv
  have hx := Bd.exec
  have hb := Bd.bytes
  have hr := Bd.returns
  have hts := atoms_spec (ws := wsX5_rename) Bd.pre
  have hown : s.vm.findClass RX5 = some m.cls := findClass_of_methodNamed Bd.named
  have hlocks := Bd.notSynchronized
  have hinX5 : ∀ w ∈ u_ws RX5 TX5 31, w ∈ wsX5_rename := by decide +kernel
  have hP := kl_S.rf hP0
  have hl := lv_entry ([.ref (B + 26), .int (nI rw9), .int key]) (n := 7) (Nat.le_of_ble_eq_true rfl)
  rw [lg_entry_eq]
  generalize (lg_sl ([.ref (B + 26), .int (nI rw9), .int key]) ++ List.replicate (7 - (lg_sl ([.ref (B + 26), .int (nI rw9), .int key])).length) Slot.unset).toArray = ls at hl ⊢
  have hl : lv_has ls 7 [(0, .ref (B + 26)), (1, .int (nI rw9)), (2, .int key)] := hl
  have frm : ∀ j : Nat, j ≠ 29 → w j = w j := fun j _ => rfl
  refine lv_iconst (v := nI 0) hx hb dX5_rename_0 (by decide) ?_
  refine lv_istore_n (lv' := [(3, .int (nI 0)), (0, .ref (B + 26)), (1, .int (nI rw9)), (2, .int key)]) hx hb dX5_rename_1 rfl hl (by decide) rfl (fun ls hl => ?_)
  refine lv_aload_n hx hb dX5_rename_2 rfl (lv_at hl 1 rfl) ?_
  refine kl_get (C := RX5) (T := TX5) (N := 31) (ci := 5) hx hb hts hinX5 hown hK hP q26 rfl 6 (by decide) (hts (.fieldLink RX5 16 "KinLedgerModel" "cells" "[I") (by decide +kernel)) (fun _ h9 => h9) rfl dX5_rename_3 ?_
  refine lv_iconst (v := nI 4) hx hb dX5_rename_6 (by decide) ?_
  refine lv_iload_n hx hb dX5_rename_7 rfl (lv_at hl 2 rfl) ?_
  refine lv_imul hx hb dX5_rename_8 ?_
  refine kl_top (z := nI (4 * rw9)) (pk_mul _ _) ?_
  refine lv_iload_n hx hb dX5_rename_9 rfl (lv_at hl 3 rfl) ?_
  refine kl_iast hx hb hK hP q29 (by omega) (by omega) dX5_rename_10 (fun w1 H locs f2 fr3 hzw1 hP => ?_)
  have q26 : w1 26 = some (.inr (5, [.int ec, .int rs, .int (nI nT), .ref (B + 27), .int (nI n), .ref (B + 28), .ref (B + 29), .int (nI on), .ref (B + 30), .ref (B + 31), .ref (B + 32), .int (nI nL), .ref (B + 33), .ref (B + 34), .ref (B + 35), .ref (B + 36), .int (nI nS), .ref (B + 37), .ref (B + 38), .int (nI nC), .ref (B + 39), .ref (B + 40), .ref (B + 41), .int (nI nW), .ref (B + 42), .int hi, .ref (B + 43), .int (nI nM), .ref (B + 44), .ref (B + 45), .ref (B + 46)])) := (fr3 _ (by decide)).trans q26
  have q30 : w1 30 = some (kl_aI G 24 oO) := (fr3 _ (by decide)).trans q30
  have q31 : w1 31 = some (kl_aI G 96 oD) := (fr3 _ (by decide)).trans q31
  have q33 : w1 33 = some (kl_aI G 7 lch) := (fr3 _ (by decide)).trans q33
  have q34 : w1 34 = some (kl_aI G 7 ((fun t => nI (lco t)))) := (fr3 _ (by decide)).trans q34
  have q35 : w1 35 = some (kl_aI G 7 lpa) := (fr3 _ (by decide)).trans q35
  have q36 : w1 36 = some (kl_aI G 7 lwy) := (fr3 _ (by decide)).trans q36
  have frm : ∀ j : Nat, j ≠ 29 → w1 j = w j := fun j k0 => (fr3 j k0).trans (frm j k0)
  refine lv_aload_n hx hb dX5_rename_11 rfl (lv_at hl 1 rfl) ?_
  refine kl_get (C := RX5) (T := TX5) (N := 31) (ci := 5) hx hb hts hinX5 hown hK hP q26 rfl 11 (by decide) (hts (.fieldLink RX5 106 "KinLedgerModel" "links" "I") (by decide +kernel)) (fun _ h9 => h9) rfl dX5_rename_12 ?_
  refine lv_iconst (v := nI 1) hx hb dX5_rename_15 (by decide) ?_
  refine lv_isub hx hb dX5_rename_16 ?_
  refine lv_istore (lv' := [(4, .int (nI nL - nI 1)), (3, .int (nI 0)), (0, .ref (B + 26)), (1, .int (nI rw9)), (2, .int key)]) hx hb dX5_rename_17 hl (by decide) rfl (fun ls hl => ?_)
  have lp19 : ∀ (n19 : Nat) (k : Nat) (y : Nat) (kv : Int32) (g : Nat → Int32), k < n19 → (k ≤ nL) → (md_wy kv y) → (mt_wr n (fun l p => k ≤ l ∧ l < nL) (fun l p => lwy l ≠ 0 ∧ mt_ref (md_T n oO) oD (lch l) (lco l) (lpa l) p rw9) lco (fun l => if lwy l = nI 1 then key else nI 0) (upd D (4 * rw9) key) g) → (mt_kp n (fun l p => k ≤ l ∧ l < nL) (fun l p => lwy l = 0 ∧ mt_ref (md_T n oO) oD (lch l) (lco l) (lpa l) p rw9) kv) → ∀ (w1 : kl_M) (H : Heap) (locs : List Loc), w1 26 = some (.inr (5, [.int ec, .int rs, .int (nI nT), .ref (B + 27), .int (nI n), .ref (B + 28), .ref (B + 29), .int (nI on), .ref (B + 30), .ref (B + 31), .ref (B + 32), .int (nI nL), .ref (B + 33), .ref (B + 34), .ref (B + 35), .ref (B + 36), .int (nI nS), .ref (B + 37), .ref (B + 38), .int (nI nC), .ref (B + 39), .ref (B + 40), .ref (B + 41), .int (nI nW), .ref (B + 42), .int hi, .ref (B + 43), .int (nI nM), .ref (B + 44), .ref (B + 45), .ref (B + 46)])) → w1 29 = some (kl_aI G 96 g) → w1 30 = some (kl_aI G 24 oO) → w1 31 = some (kl_aI G 96 oD) → w1 33 = some (kl_aI G 7 lch) → w1 34 = some (kl_aI G 7 ((fun t => nI (lco t)))) → w1 35 = some (kl_aI G 7 lpa) → w1 36 = some (kl_aI G 7 lwy) → (∀ j : Nat, j ≠ 29 → w1 j = w j) → kl_S G B w1 s.heap H locs → ∀ ls : Array Slot, lv_has ls 7 [(0, .ref (B + 26)), (1, .int (nI rw9)), (2, .int key), (3, .int (nI y)), (4, .int (nI k - nI 1))] → W pg l e rm_X5_rename s m ([.ref (B + 26), .int (nI rw9), .int key] : List Value).toArray below meth cd H locs (0) (0) (MQ below (kl_Qi G B (fun r w1 => ∃ d2 kp y, r = nI y ∧ w1 29 = some (kl_aI G 96 d2) ∧ md_wy kp y ∧ mt_wr n (fun l _ => l < nL) (fun l p => lwy l ≠ 0 ∧ mt_ref (md_T n oO) oD (lch l) (lco l) (lpa l) p rw9) lco (fun l => if lwy l = nI 1 then key else nI 0) (upd D (4 * rw9) key) d2 ∧ mt_kp n (fun l _ => l < nL) (fun l p => lwy l = 0 ∧ mt_ref (md_T n oO) oD (lch l) (lco l) (lpa l) p rw9) kp ∧ ∀ j : Nat, j ≠ 29 → w1 j = w j)) ([.ref (B + 26), .int (nI rw9), .int key] : List Value).toArray s 0 0 (kl_fr B)) (F0 m 19 ls []) := by
    intro n19
    induction n19 with
    | zero => intro k y kv g hm; exact absurd hm (Nat.not_lt_zero _)
    | succ n19 ih19 =>
      intro k y kv g hm hk hwy hw hkp w1 H locs q26 f2 q30 q31 q33 q34 q35 q36 frm hP ls hl
      have hyl := hwy.le
      rcases k with _ | k
      · refine lv_iload hx hb dX5_rename_19 (lv_at hl 4 rfl) ?_
        refine lv_if_lt (tgt := 138) hx hb dX5_rename_21 (by decide) (fun c21 => ?_) (fun c21 => absurd (by decide) c21)
        refine lv_iload_n hx hb dX5_rename_138 rfl (lv_at hl 3 rfl) ?_
        exact kl_iret hx hb hr hlocks hP ⟨g, _, y, rfl, f2, hwy, hw.same (fun l p hp => by omega), hkp.same (fun l p hp => by omega), frm⟩ dX5_rename_139
      · rw [mt_pred k] at hl
        refine lv_iload hx hb dX5_rename_19 (lv_at hl 4 rfl) ?_
        refine kl_z_lt (tgt := 138) hx hb (by omega) dX5_rename_21 (by decide) ?_
        refine lv_iconst (v := nI 0) hx hb dX5_rename_24 (by decide) ?_
        refine lv_istore (lv' := [(5, .int (nI 0)), (0, .ref (B + 26)), (1, .int (nI rw9)), (2, .int key), (3, .int (nI y)), (4, .int (nI k))]) hx hb dX5_rename_25 hl (by decide) rfl (fun ls hl => ?_)
        have lp27 : ∀ (n27 : Nat) (x : Nat) (y : Nat) (kv : Int32) (g : Nat → Int32), n - x < n27 → (x ≤ n) → (md_wy kv y) → (mt_wr n (fun l p => (k < l ∧ l < nL) ∨ (l = k ∧ p < x)) (fun l p => lwy l ≠ 0 ∧ mt_ref (md_T n oO) oD (lch l) (lco l) (lpa l) p rw9) lco (fun l => if lwy l = nI 1 then key else nI 0) (upd D (4 * rw9) key) g) → (mt_kp n (fun l p => (k < l ∧ l < nL) ∨ (l = k ∧ p < x)) (fun l p => lwy l = 0 ∧ mt_ref (md_T n oO) oD (lch l) (lco l) (lpa l) p rw9) kv) → ∀ (w1 : kl_M) (H : Heap) (locs : List Loc), w1 26 = some (.inr (5, [.int ec, .int rs, .int (nI nT), .ref (B + 27), .int (nI n), .ref (B + 28), .ref (B + 29), .int (nI on), .ref (B + 30), .ref (B + 31), .ref (B + 32), .int (nI nL), .ref (B + 33), .ref (B + 34), .ref (B + 35), .ref (B + 36), .int (nI nS), .ref (B + 37), .ref (B + 38), .int (nI nC), .ref (B + 39), .ref (B + 40), .ref (B + 41), .int (nI nW), .ref (B + 42), .int hi, .ref (B + 43), .int (nI nM), .ref (B + 44), .ref (B + 45), .ref (B + 46)])) → w1 29 = some (kl_aI G 96 g) → w1 30 = some (kl_aI G 24 oO) → w1 31 = some (kl_aI G 96 oD) → w1 33 = some (kl_aI G 7 lch) → w1 34 = some (kl_aI G 7 ((fun t => nI (lco t)))) → w1 35 = some (kl_aI G 7 lpa) → w1 36 = some (kl_aI G 7 lwy) → (∀ j : Nat, j ≠ 29 → w1 j = w j) → kl_S G B w1 s.heap H locs → ∀ ls : Array Slot, lv_has ls 7 [(0, .ref (B + 26)), (1, .int (nI rw9)), (2, .int key), (3, .int (nI y)), (4, .int (nI k)), (5, .int (nI x))] → W pg l e rm_X5_rename s m ([.ref (B + 26), .int (nI rw9), .int key] : List Value).toArray below meth cd H locs (0) (0) (MQ below (kl_Qi G B (fun r w1 => ∃ d2 kp y, r = nI y ∧ w1 29 = some (kl_aI G 96 d2) ∧ md_wy kp y ∧ mt_wr n (fun l _ => l < nL) (fun l p => lwy l ≠ 0 ∧ mt_ref (md_T n oO) oD (lch l) (lco l) (lpa l) p rw9) lco (fun l => if lwy l = nI 1 then key else nI 0) (upd D (4 * rw9) key) d2 ∧ mt_kp n (fun l _ => l < nL) (fun l p => lwy l = 0 ∧ mt_ref (md_T n oO) oD (lch l) (lco l) (lpa l) p rw9) kp ∧ ∀ j : Nat, j ≠ 29 → w1 j = w j)) ([.ref (B + 26), .int (nI rw9), .int key] : List Value).toArray s 0 0 (kl_fr B)) (F0 m 27 ls []) := by
          intro n27
          induction n27 with
          | zero => intro x y kv g hm; exact absurd hm (Nat.not_lt_zero _)
          | succ n27 ih27 =>
            intro x y kv g hm hx9 hwy hw hkp w1 H locs q26 f2 q30 q31 q33 q34 q35 q36 frm hP ls hl
            have hyl := hwy.le
            refine lv_iload hx hb dX5_rename_27 (lv_at hl 5 rfl) ?_
            refine lv_aload_n hx hb dX5_rename_29 rfl (lv_at hl 0 rfl) ?_
            refine kl_get (C := RX5) (T := TX5) (N := 31) (ci := 5) hx hb hts hinX5 hown hK hP q26 rfl 4 (by decide) (hts (.fieldLink RX5 82 "KinLedgerModel" "rows" "I") (by decide +kernel)) (fun _ h9 => h9) rfl dX5_rename_30 ?_
            refine kl_ge (tgt := 132) hx hb (by omega) (by omega) dX5_rename_33 (by decide) (fun c33 => ?_) (fun c33 => ?_)
            · refine lv_iinc (v := nI k - nI 1) (lv' := [(4, .int (nI k - nI 1)), (0, .ref (B + 26)), (1, .int (nI rw9)), (2, .int key), (3, .int (nI y)), (5, .int (nI x))]) hx hb dX5_rename_132 hl (k := 4) rfl (mt_dec _) (by decide) rfl (fun ls hl => ?_)
              refine lv_goto (tgt := 19) hx hb dX5_rename_135 (by decide) ?_
              exact ih19 k y kv g (by omega) (by first | omega | grind) hwy (hw.same (fun l p hp => by omega)) (hkp.same (fun l p hp => by omega)) _ _ _ q26 f2 q30 q31 q33 q34 q35 q36 frm hP ls (lv_sub hl [1, 2, 3, 4, 0] rfl)
            · refine lv_aload_n hx hb dX5_rename_36 rfl (lv_at hl 0 rfl) ?_
              refine lv_iload hx hb dX5_rename_37 (lv_at hl 4 rfl) ?_
              refine lv_iload hx hb dX5_rename_39 (lv_at hl 5 rfl) ?_
              refine lv_iload_n hx hb dX5_rename_41 rfl (lv_at hl 1 rfl) ?_
              refine kl_cVi (C := RX5) (i := 26) (As := [.int (nI k), .int (nI x), .int (nI rw9)]) (rest := []) ⟨hx, hb, hml, hown, hts⟩ (c_X5_referred l G B _ k x rw9 q26 q30 q31 q33 q34 q35 (by omega) (by omega) (by omega) (hrl k (by omega)).2.2.1) (cwV 3 hts gX5_rename_X5_referred rfl rfl rfl (by decide +kernel) ⟨Nat.le_of_ble_eq_true rfl, Nat.le_of_ble_eq_true rfl⟩) hK hP q26 rfl rfl hl.1 rfl (Nat.le_of_ble_eq_true rfl) dX5_rename_42 ⟨Nat.le_of_ble_eq_true rfl, Nat.le_of_ble_eq_true rfl⟩ (fun r6 w4 H locs q5 hP => ?_)
              obtain ⟨rfl, hv7⟩ := q5
              refine kl_ifeq (tgt := 126) hx hb hv7 dX5_rename_45 (by decide) (fun c45 => ?_) (fun c45 => ?_)
              · refine lv_iinc (v := nI (x + 1)) (lv' := [(5, .int (nI (x + 1))), (0, .ref (B + 26)), (1, .int (nI rw9)), (2, .int key), (3, .int (nI y)), (4, .int (nI k))]) hx hb dX5_rename_126 hl (k := 5) rfl (nI_1 _) (by decide) rfl (fun ls hl => ?_)
                refine lv_goto (tgt := 27) hx hb dX5_rename_129 (by decide) ?_
                exact ih27 (x + 1) y kv g (by omega) (by first | omega | grind) hwy (hw.no (l0 := k) (x := x) (fun l p hp => by omega) (fun z => c45 ((md_ref (by omega) (by omega)).mp z.2))) (hkp.no (l0 := k) (x := x) (fun l p hp => by omega) (fun z => c45 ((md_ref (by omega) (by omega)).mp z.2))) _ _ _ q26 f2 q30 q31 q33 q34 q35 q36 frm hP ls (lv_sub hl [1, 2, 3, 4, 5, 0] rfl)
              · refine lv_aload_n hx hb dX5_rename_48 rfl (lv_at hl 0 rfl) ?_
                refine kl_get (C := RX5) (T := TX5) (N := 31) (ci := 5) hx hb hts hinX5 hown hK hP q26 rfl 15 (by decide) (hts (.fieldLink RX5 38 "KinLedgerModel" "ways" "[I") (by decide +kernel)) (fun _ h9 => h9) rfl dX5_rename_49 ?_
                refine lv_iload hx hb dX5_rename_52 (lv_at hl 4 rfl) ?_
                refine kl_iald hx hb hK hP q36 (by omega) (by omega) dX5_rename_54 ?_
                refine lv_if_ne (tgt := 66) hx hb dX5_rename_55 (by decide) (fun c55 => ?_) (fun c55 => ?_)
                · refine lv_iload_n hx hb dX5_rename_66 rfl (lv_at hl 3 rfl) ?_
                  refine lv_istore_n (lv' := [(3, .int (nI y)), (0, .ref (B + 26)), (1, .int (nI rw9)), (2, .int key), (4, .int (nI k)), (5, .int (nI x))]) hx hb dX5_rename_67 rfl hl (by decide) rfl (fun ls hl => ?_)
                  have hlk4 := (hrl k (by omega)).2.2.1
                  refine lv_iconst (v := nI 4) hx hb dX5_rename_68 (by decide) ?_
                  refine lv_iload hx hb dX5_rename_69 (lv_at hl 5 rfl) ?_
                  refine lv_imul hx hb dX5_rename_71 ?_
                  refine kl_top (z := nI (4 * x)) (pk_mul _ _) ?_
                  refine lv_aload_n hx hb dX5_rename_72 rfl (lv_at hl 1 rfl) ?_
                  refine kl_get (C := RX5) (T := TX5) (N := 31) (ci := 5) hx hb hts hinX5 hown hK hP q26 rfl 13 (by decide) (hts (.fieldLink RX5 32 "KinLedgerModel" "linkColumn" "[I") (by decide +kernel)) (fun _ h9 => h9) rfl dX5_rename_73 ?_
                  refine lv_iload hx hb dX5_rename_76 (lv_at hl 4 rfl) ?_
                  refine kl_iald hx hb hK hP q34 (by omega) (by omega) dX5_rename_78 ?_
                  refine kl_top (z := nI (lco k)) rfl ?_
                  refine lv_iadd hx hb dX5_rename_79 ?_
                  refine kl_top (z := nI (4 * x + lco k)) (by first | exact nI_add _ _ | (rw [nI_add]; first | rfl | (congr 1; omega))) ?_
                  refine lv_istore (lv' := [(6, .int (nI (4 * x + lco k))), (3, .int (nI y)), (0, .ref (B + 26)), (1, .int (nI rw9)), (2, .int key), (4, .int (nI k)), (5, .int (nI x))]) hx hb dX5_rename_80 hl (by decide) rfl (fun ls hl => ?_)
                  refine lv_aload_n hx hb dX5_rename_82 rfl (lv_at hl 2 rfl) ?_
                  refine kl_get (C := RX5) (T := TX5) (N := 31) (ci := 5) hx hb hts hinX5 hown hK hP q26 rfl 6 (by decide) (hts (.fieldLink RX5 16 "KinLedgerModel" "cells" "[I") (by decide +kernel)) (fun _ h9 => h9) rfl dX5_rename_83 ?_
                  refine lv_iload hx hb dX5_rename_86 (lv_at hl 0 rfl) ?_
                  refine lv_aload_n hx hb dX5_rename_88 rfl (lv_at hl 2 rfl) ?_
                  refine kl_get (C := RX5) (T := TX5) (N := 31) (ci := 5) hx hb hts hinX5 hown hK hP q26 rfl 15 (by decide) (hts (.fieldLink RX5 38 "KinLedgerModel" "ways" "[I") (by decide +kernel)) (fun _ h9 => h9) rfl dX5_rename_89 ?_
                  refine lv_iload hx hb dX5_rename_92 (lv_at hl 5 rfl) ?_
                  refine kl_iald hx hb hK hP q36 (by omega) (by omega) dX5_rename_94 ?_
                  refine lv_iconst (v := nI 1) hx hb dX5_rename_95 (by decide) ?_
                  refine lv_icmp_ne (tgt := 103) hx hb dX5_rename_96 (by decide) (fun c96 => ?_) (fun c96 => ?_)
                  · refine lv_aload_n hx hb dX5_rename_103 rfl (lv_at hl 2 rfl) ?_
                    refine kl_get (C := RX5) (T := TX5) (N := 31) (ci := 5) hx hb hts hinX5 hown hK hP q26 rfl 15 (by decide) (hts (.fieldLink RX5 38 "KinLedgerModel" "ways" "[I") (by decide +kernel)) (fun _ h9 => h9) rfl dX5_rename_104 ?_
                    refine lv_iload hx hb dX5_rename_107 (lv_at hl 5 rfl) ?_
                    refine kl_iald hx hb hK hP q36 (by omega) (by omega) dX5_rename_109 ?_
                    refine lv_iconst (v := nI 2) hx hb dX5_rename_110 (by decide) ?_
                    refine lv_icmp_ne (tgt := 118) hx hb dX5_rename_111 (by decide) (fun c111 => ?_) (fun c111 => ?_)
                    · refine lv_aload_n hx hb dX5_rename_118 rfl (lv_at hl 2 rfl) ?_
                      refine kl_get (C := RX5) (T := TX5) (N := 31) (ci := 5) hx hb hts hinX5 hown hK hP q26 rfl 6 (by decide) (hts (.fieldLink RX5 16 "KinLedgerModel" "cells" "[I") (by decide +kernel)) (fun _ h9 => h9) rfl dX5_rename_119 ?_
                      refine lv_iload hx hb dX5_rename_122 (lv_at hl 0 rfl) ?_
                      refine kl_iald hx hb hK hP f2 (by omega) (by omega) dX5_rename_124 ?_
                      refine kl_iast hx hb hK hP f2 (by omega) (by omega) dX5_rename_125 (fun w8 H locs f9 fr10 hzw8 hP => ?_)
                      have q26 : w8 26 = some (.inr (5, [.int ec, .int rs, .int (nI nT), .ref (B + 27), .int (nI n), .ref (B + 28), .ref (B + 29), .int (nI on), .ref (B + 30), .ref (B + 31), .ref (B + 32), .int (nI nL), .ref (B + 33), .ref (B + 34), .ref (B + 35), .ref (B + 36), .int (nI nS), .ref (B + 37), .ref (B + 38), .int (nI nC), .ref (B + 39), .ref (B + 40), .ref (B + 41), .int (nI nW), .ref (B + 42), .int hi, .ref (B + 43), .int (nI nM), .ref (B + 44), .ref (B + 45), .ref (B + 46)])) := (fr10 _ (by decide)).trans q26
                      have q30 : w8 30 = some (kl_aI G 24 oO) := (fr10 _ (by decide)).trans q30
                      have q31 : w8 31 = some (kl_aI G 96 oD) := (fr10 _ (by decide)).trans q31
                      have q33 : w8 33 = some (kl_aI G 7 lch) := (fr10 _ (by decide)).trans q33
                      have q34 : w8 34 = some (kl_aI G 7 ((fun t => nI (lco t)))) := (fr10 _ (by decide)).trans q34
                      have q35 : w8 35 = some (kl_aI G 7 lpa) := (fr10 _ (by decide)).trans q35
                      have q36 : w8 36 = some (kl_aI G 7 lwy) := (fr10 _ (by decide)).trans q36
                      have frm : ∀ j : Nat, j ≠ 29 → w8 j = w j := fun j k0 => (fr10 j k0).trans (frm j k0)
                      refine lv_iinc (v := nI (x + 1)) (lv' := [(5, .int (nI (x + 1))), (6, .int (nI (4 * x + lco k))), (3, .int (nI y)), (0, .ref (B + 26)), (1, .int (nI rw9)), (2, .int key), (4, .int (nI k))]) hx hb dX5_rename_126 hl (k := 6) rfl (nI_1 _) (by decide) rfl (fun ls hl => ?_)
                      refine lv_goto (tgt := 27) hx hb dX5_rename_129 (by decide) ?_
                      exact ih27 (x + 1) y kv (upd g (4 * x + lco k) (g (4 * x + lco k))) (by omega) (by first | omega | grind) hwy (by rw [md_upd_self]; exact hw.no (l0 := k) (x := x) (fun l p hp => by omega) (fun z => (hrl k (by omega)).2.2.2.elim z.1 (fun y => y.elim c96 c111))) (hkp.no (l0 := k) (x := x) (fun l p hp => by omega) (fun z => c55 z.1)) _ _ _ q26 f9 q30 q31 q33 q34 q35 q36 frm hP ls (lv_sub hl [3, 4, 5, 2, 6, 0] rfl)
                    · refine lv_iconst (v := nI 0) hx hb dX5_rename_114 (by decide) ?_
                      refine lv_goto (tgt := 125) hx hb dX5_rename_115 (by decide) ?_
                      refine kl_iast hx hb hK hP f2 (by omega) (by omega) dX5_rename_125 (fun w11 H locs f12 fr13 hzw11 hP => ?_)
                      have q26 : w11 26 = some (.inr (5, [.int ec, .int rs, .int (nI nT), .ref (B + 27), .int (nI n), .ref (B + 28), .ref (B + 29), .int (nI on), .ref (B + 30), .ref (B + 31), .ref (B + 32), .int (nI nL), .ref (B + 33), .ref (B + 34), .ref (B + 35), .ref (B + 36), .int (nI nS), .ref (B + 37), .ref (B + 38), .int (nI nC), .ref (B + 39), .ref (B + 40), .ref (B + 41), .int (nI nW), .ref (B + 42), .int hi, .ref (B + 43), .int (nI nM), .ref (B + 44), .ref (B + 45), .ref (B + 46)])) := (fr13 _ (by decide)).trans q26
                      have q30 : w11 30 = some (kl_aI G 24 oO) := (fr13 _ (by decide)).trans q30
                      have q31 : w11 31 = some (kl_aI G 96 oD) := (fr13 _ (by decide)).trans q31
                      have q33 : w11 33 = some (kl_aI G 7 lch) := (fr13 _ (by decide)).trans q33
                      have q34 : w11 34 = some (kl_aI G 7 ((fun t => nI (lco t)))) := (fr13 _ (by decide)).trans q34
                      have q35 : w11 35 = some (kl_aI G 7 lpa) := (fr13 _ (by decide)).trans q35
                      have q36 : w11 36 = some (kl_aI G 7 lwy) := (fr13 _ (by decide)).trans q36
                      have frm : ∀ j : Nat, j ≠ 29 → w11 j = w j := fun j k0 => (fr13 j k0).trans (frm j k0)
                      refine lv_iinc (v := nI (x + 1)) (lv' := [(5, .int (nI (x + 1))), (6, .int (nI (4 * x + lco k))), (3, .int (nI y)), (0, .ref (B + 26)), (1, .int (nI rw9)), (2, .int key), (4, .int (nI k))]) hx hb dX5_rename_126 hl (k := 6) rfl (nI_1 _) (by decide) rfl (fun ls hl => ?_)
                      refine lv_goto (tgt := 27) hx hb dX5_rename_129 (by decide) ?_
                      exact ih27 (x + 1) y kv (upd g (4 * x + lco k) (nI 0)) (by omega) (by first | omega | grind) hwy (hw.put (l0 := k) (x := x) (if_neg c96) (by omega) (fun l p hp => by omega) (fun l z => by omega) ⟨by rw [c111]; decide, (md_ref (by omega) (by omega)).mpr c45⟩ (hrl k (by omega)).2.2.1) (hkp.no (l0 := k) (x := x) (fun l p hp => by omega) (fun z => c55 z.1)) _ _ _ q26 f12 q30 q31 q33 q34 q35 q36 frm hP ls (lv_sub hl [3, 4, 5, 2, 6, 0] rfl)
                  · refine lv_iload_n hx hb dX5_rename_99 rfl (lv_at hl 4 rfl) ?_
                    refine lv_goto (tgt := 125) hx hb dX5_rename_100 (by decide) ?_
                    refine kl_iast hx hb hK hP f2 (by omega) (by omega) dX5_rename_125 (fun w14 H locs f15 fr16 hzw14 hP => ?_)
                    have q26 : w14 26 = some (.inr (5, [.int ec, .int rs, .int (nI nT), .ref (B + 27), .int (nI n), .ref (B + 28), .ref (B + 29), .int (nI on), .ref (B + 30), .ref (B + 31), .ref (B + 32), .int (nI nL), .ref (B + 33), .ref (B + 34), .ref (B + 35), .ref (B + 36), .int (nI nS), .ref (B + 37), .ref (B + 38), .int (nI nC), .ref (B + 39), .ref (B + 40), .ref (B + 41), .int (nI nW), .ref (B + 42), .int hi, .ref (B + 43), .int (nI nM), .ref (B + 44), .ref (B + 45), .ref (B + 46)])) := (fr16 _ (by decide)).trans q26
                    have q30 : w14 30 = some (kl_aI G 24 oO) := (fr16 _ (by decide)).trans q30
                    have q31 : w14 31 = some (kl_aI G 96 oD) := (fr16 _ (by decide)).trans q31
                    have q33 : w14 33 = some (kl_aI G 7 lch) := (fr16 _ (by decide)).trans q33
                    have q34 : w14 34 = some (kl_aI G 7 ((fun t => nI (lco t)))) := (fr16 _ (by decide)).trans q34
                    have q35 : w14 35 = some (kl_aI G 7 lpa) := (fr16 _ (by decide)).trans q35
                    have q36 : w14 36 = some (kl_aI G 7 lwy) := (fr16 _ (by decide)).trans q36
                    have frm : ∀ j : Nat, j ≠ 29 → w14 j = w j := fun j k0 => (fr16 j k0).trans (frm j k0)
                    refine lv_iinc (v := nI (x + 1)) (lv' := [(5, .int (nI (x + 1))), (6, .int (nI (4 * x + lco k))), (3, .int (nI y)), (0, .ref (B + 26)), (1, .int (nI rw9)), (2, .int key), (4, .int (nI k))]) hx hb dX5_rename_126 hl (k := 6) rfl (nI_1 _) (by decide) rfl (fun ls hl => ?_)
                    refine lv_goto (tgt := 27) hx hb dX5_rename_129 (by decide) ?_
                    exact ih27 (x + 1) y kv (upd g (4 * x + lco k) key) (by omega) (by first | omega | grind) hwy (hw.put (l0 := k) (x := x) (if_pos c96) (by omega) (fun l p hp => by omega) (fun l z => by omega) ⟨by rw [c96]; decide, (md_ref (by omega) (by omega)).mpr c45⟩ (hrl k (by omega)).2.2.1) (hkp.no (l0 := k) (x := x) (fun l p hp => by omega) (fun z => c55 z.1)) _ _ _ q26 f15 q30 q31 q33 q34 q35 q36 frm hP ls (lv_sub hl [3, 4, 5, 2, 6, 0] rfl)
                · refine lv_bipush (v := nI 100) hx hb dX5_rename_58 (by decide) ?_
                  refine lv_iload hx hb dX5_rename_60 (lv_at hl 4 rfl) ?_
                  refine lv_iadd hx hb dX5_rename_62 ?_
                  refine kl_top (z := nI (100 + k)) (by first | exact nI_add _ _ | (rw [nI_add]; first | rfl | (congr 1; omega))) ?_
                  refine lv_goto (tgt := 67) hx hb dX5_rename_63 (by decide) ?_
                  refine lv_istore_n (lv' := [(3, .int (nI (100 + k))), (0, .ref (B + 26)), (1, .int (nI rw9)), (2, .int key), (4, .int (nI k)), (5, .int (nI x))]) hx hb dX5_rename_67 rfl hl (by decide) rfl (fun ls hl => ?_)
                  have hlk4 := (hrl k (by omega)).2.2.1
                  refine lv_iconst (v := nI 4) hx hb dX5_rename_68 (by decide) ?_
                  refine lv_iload hx hb dX5_rename_69 (lv_at hl 5 rfl) ?_
                  refine lv_imul hx hb dX5_rename_71 ?_
                  refine kl_top (z := nI (4 * x)) (pk_mul _ _) ?_
                  refine lv_aload_n hx hb dX5_rename_72 rfl (lv_at hl 1 rfl) ?_
                  refine kl_get (C := RX5) (T := TX5) (N := 31) (ci := 5) hx hb hts hinX5 hown hK hP q26 rfl 13 (by decide) (hts (.fieldLink RX5 32 "KinLedgerModel" "linkColumn" "[I") (by decide +kernel)) (fun _ h9 => h9) rfl dX5_rename_73 ?_
                  refine lv_iload hx hb dX5_rename_76 (lv_at hl 4 rfl) ?_
                  refine kl_iald hx hb hK hP q34 (by omega) (by omega) dX5_rename_78 ?_
                  refine kl_top (z := nI (lco k)) rfl ?_
                  refine lv_iadd hx hb dX5_rename_79 ?_
                  refine kl_top (z := nI (4 * x + lco k)) (by first | exact nI_add _ _ | (rw [nI_add]; first | rfl | (congr 1; omega))) ?_
                  refine lv_istore (lv' := [(6, .int (nI (4 * x + lco k))), (3, .int (nI (100 + k))), (0, .ref (B + 26)), (1, .int (nI rw9)), (2, .int key), (4, .int (nI k)), (5, .int (nI x))]) hx hb dX5_rename_80 hl (by decide) rfl (fun ls hl => ?_)
                  refine lv_aload_n hx hb dX5_rename_82 rfl (lv_at hl 2 rfl) ?_
                  refine kl_get (C := RX5) (T := TX5) (N := 31) (ci := 5) hx hb hts hinX5 hown hK hP q26 rfl 6 (by decide) (hts (.fieldLink RX5 16 "KinLedgerModel" "cells" "[I") (by decide +kernel)) (fun _ h9 => h9) rfl dX5_rename_83 ?_
                  refine lv_iload hx hb dX5_rename_86 (lv_at hl 0 rfl) ?_
                  refine lv_aload_n hx hb dX5_rename_88 rfl (lv_at hl 2 rfl) ?_
                  refine kl_get (C := RX5) (T := TX5) (N := 31) (ci := 5) hx hb hts hinX5 hown hK hP q26 rfl 15 (by decide) (hts (.fieldLink RX5 38 "KinLedgerModel" "ways" "[I") (by decide +kernel)) (fun _ h9 => h9) rfl dX5_rename_89 ?_
                  refine lv_iload hx hb dX5_rename_92 (lv_at hl 5 rfl) ?_
                  refine kl_iald hx hb hK hP q36 (by omega) (by omega) dX5_rename_94 ?_
                  refine lv_iconst (v := nI 1) hx hb dX5_rename_95 (by decide) ?_
                  refine lv_icmp_ne (tgt := 103) hx hb dX5_rename_96 (by decide) (fun c96 => ?_) (fun c96 => ?_)
                  · refine lv_aload_n hx hb dX5_rename_103 rfl (lv_at hl 2 rfl) ?_
                    refine kl_get (C := RX5) (T := TX5) (N := 31) (ci := 5) hx hb hts hinX5 hown hK hP q26 rfl 15 (by decide) (hts (.fieldLink RX5 38 "KinLedgerModel" "ways" "[I") (by decide +kernel)) (fun _ h9 => h9) rfl dX5_rename_104 ?_
                    refine lv_iload hx hb dX5_rename_107 (lv_at hl 5 rfl) ?_
                    refine kl_iald hx hb hK hP q36 (by omega) (by omega) dX5_rename_109 ?_
                    refine lv_iconst (v := nI 2) hx hb dX5_rename_110 (by decide) ?_
                    refine lv_icmp_ne (tgt := 118) hx hb dX5_rename_111 (by decide) (fun c111 => ?_) (fun c111 => ?_)
                    · refine lv_aload_n hx hb dX5_rename_118 rfl (lv_at hl 2 rfl) ?_
                      refine kl_get (C := RX5) (T := TX5) (N := 31) (ci := 5) hx hb hts hinX5 hown hK hP q26 rfl 6 (by decide) (hts (.fieldLink RX5 16 "KinLedgerModel" "cells" "[I") (by decide +kernel)) (fun _ h9 => h9) rfl dX5_rename_119 ?_
                      refine lv_iload hx hb dX5_rename_122 (lv_at hl 0 rfl) ?_
                      refine kl_iald hx hb hK hP f2 (by omega) (by omega) dX5_rename_124 ?_
                      refine kl_iast hx hb hK hP f2 (by omega) (by omega) dX5_rename_125 (fun w17 H locs f18 fr19 hzw17 hP => ?_)
                      have q26 : w17 26 = some (.inr (5, [.int ec, .int rs, .int (nI nT), .ref (B + 27), .int (nI n), .ref (B + 28), .ref (B + 29), .int (nI on), .ref (B + 30), .ref (B + 31), .ref (B + 32), .int (nI nL), .ref (B + 33), .ref (B + 34), .ref (B + 35), .ref (B + 36), .int (nI nS), .ref (B + 37), .ref (B + 38), .int (nI nC), .ref (B + 39), .ref (B + 40), .ref (B + 41), .int (nI nW), .ref (B + 42), .int hi, .ref (B + 43), .int (nI nM), .ref (B + 44), .ref (B + 45), .ref (B + 46)])) := (fr19 _ (by decide)).trans q26
                      have q30 : w17 30 = some (kl_aI G 24 oO) := (fr19 _ (by decide)).trans q30
                      have q31 : w17 31 = some (kl_aI G 96 oD) := (fr19 _ (by decide)).trans q31
                      have q33 : w17 33 = some (kl_aI G 7 lch) := (fr19 _ (by decide)).trans q33
                      have q34 : w17 34 = some (kl_aI G 7 ((fun t => nI (lco t)))) := (fr19 _ (by decide)).trans q34
                      have q35 : w17 35 = some (kl_aI G 7 lpa) := (fr19 _ (by decide)).trans q35
                      have q36 : w17 36 = some (kl_aI G 7 lwy) := (fr19 _ (by decide)).trans q36
                      have frm : ∀ j : Nat, j ≠ 29 → w17 j = w j := fun j k0 => (fr19 j k0).trans (frm j k0)
                      refine lv_iinc (v := nI (x + 1)) (lv' := [(5, .int (nI (x + 1))), (6, .int (nI (4 * x + lco k))), (3, .int (nI (100 + k))), (0, .ref (B + 26)), (1, .int (nI rw9)), (2, .int key), (4, .int (nI k))]) hx hb dX5_rename_126 hl (k := 6) rfl (nI_1 _) (by decide) rfl (fun ls hl => ?_)
                      refine lv_goto (tgt := 27) hx hb dX5_rename_129 (by decide) ?_
                      exact ih27 (x + 1) (100 + k) ((nI k)) (upd g (4 * x + lco k) (g (4 * x + lco k))) (by omega) (by first | omega | grind) (Or.inr ⟨k, by omega, rfl, rfl⟩) (by rw [md_upd_self]; exact hw.no (l0 := k) (x := x) (fun l p hp => by omega) (fun z => (hrl k (by omega)).2.2.2.elim z.1 (fun y => y.elim c96 c111))) (mt_kp.yes (D := (fun l p => (k < l ∧ l < nL) ∨ (l = k ∧ p < x))) (l0 := k) (x := x) (by omega) (fun l p hp => by omega) (fun l p hp z => by omega) ⟨c55, (md_ref (by omega) (by omega)).mpr c45⟩) _ _ _ q26 f18 q30 q31 q33 q34 q35 q36 frm hP ls (lv_sub hl [3, 4, 5, 2, 6, 0] rfl)
                    · refine lv_iconst (v := nI 0) hx hb dX5_rename_114 (by decide) ?_
                      refine lv_goto (tgt := 125) hx hb dX5_rename_115 (by decide) ?_
                      refine kl_iast hx hb hK hP f2 (by omega) (by omega) dX5_rename_125 (fun w20 H locs f21 fr22 hzw20 hP => ?_)
                      have q26 : w20 26 = some (.inr (5, [.int ec, .int rs, .int (nI nT), .ref (B + 27), .int (nI n), .ref (B + 28), .ref (B + 29), .int (nI on), .ref (B + 30), .ref (B + 31), .ref (B + 32), .int (nI nL), .ref (B + 33), .ref (B + 34), .ref (B + 35), .ref (B + 36), .int (nI nS), .ref (B + 37), .ref (B + 38), .int (nI nC), .ref (B + 39), .ref (B + 40), .ref (B + 41), .int (nI nW), .ref (B + 42), .int hi, .ref (B + 43), .int (nI nM), .ref (B + 44), .ref (B + 45), .ref (B + 46)])) := (fr22 _ (by decide)).trans q26
                      have q30 : w20 30 = some (kl_aI G 24 oO) := (fr22 _ (by decide)).trans q30
                      have q31 : w20 31 = some (kl_aI G 96 oD) := (fr22 _ (by decide)).trans q31
                      have q33 : w20 33 = some (kl_aI G 7 lch) := (fr22 _ (by decide)).trans q33
                      have q34 : w20 34 = some (kl_aI G 7 ((fun t => nI (lco t)))) := (fr22 _ (by decide)).trans q34
                      have q35 : w20 35 = some (kl_aI G 7 lpa) := (fr22 _ (by decide)).trans q35
                      have q36 : w20 36 = some (kl_aI G 7 lwy) := (fr22 _ (by decide)).trans q36
                      have frm : ∀ j : Nat, j ≠ 29 → w20 j = w j := fun j k0 => (fr22 j k0).trans (frm j k0)
                      refine lv_iinc (v := nI (x + 1)) (lv' := [(5, .int (nI (x + 1))), (6, .int (nI (4 * x + lco k))), (3, .int (nI (100 + k))), (0, .ref (B + 26)), (1, .int (nI rw9)), (2, .int key), (4, .int (nI k))]) hx hb dX5_rename_126 hl (k := 6) rfl (nI_1 _) (by decide) rfl (fun ls hl => ?_)
                      refine lv_goto (tgt := 27) hx hb dX5_rename_129 (by decide) ?_
                      exact ih27 (x + 1) (100 + k) ((nI k)) (upd g (4 * x + lco k) (nI 0)) (by omega) (by first | omega | grind) (Or.inr ⟨k, by omega, rfl, rfl⟩) (hw.put (l0 := k) (x := x) (if_neg c96) (by omega) (fun l p hp => by omega) (fun l z => by omega) ⟨by rw [c111]; decide, (md_ref (by omega) (by omega)).mpr c45⟩ (hrl k (by omega)).2.2.1) (mt_kp.yes (D := (fun l p => (k < l ∧ l < nL) ∨ (l = k ∧ p < x))) (l0 := k) (x := x) (by omega) (fun l p hp => by omega) (fun l p hp z => by omega) ⟨c55, (md_ref (by omega) (by omega)).mpr c45⟩) _ _ _ q26 f21 q30 q31 q33 q34 q35 q36 frm hP ls (lv_sub hl [3, 4, 5, 2, 6, 0] rfl)
                  · refine lv_iload_n hx hb dX5_rename_99 rfl (lv_at hl 4 rfl) ?_
                    refine lv_goto (tgt := 125) hx hb dX5_rename_100 (by decide) ?_
                    refine kl_iast hx hb hK hP f2 (by omega) (by omega) dX5_rename_125 (fun w23 H locs f24 fr25 hzw23 hP => ?_)
                    have q26 : w23 26 = some (.inr (5, [.int ec, .int rs, .int (nI nT), .ref (B + 27), .int (nI n), .ref (B + 28), .ref (B + 29), .int (nI on), .ref (B + 30), .ref (B + 31), .ref (B + 32), .int (nI nL), .ref (B + 33), .ref (B + 34), .ref (B + 35), .ref (B + 36), .int (nI nS), .ref (B + 37), .ref (B + 38), .int (nI nC), .ref (B + 39), .ref (B + 40), .ref (B + 41), .int (nI nW), .ref (B + 42), .int hi, .ref (B + 43), .int (nI nM), .ref (B + 44), .ref (B + 45), .ref (B + 46)])) := (fr25 _ (by decide)).trans q26
                    have q30 : w23 30 = some (kl_aI G 24 oO) := (fr25 _ (by decide)).trans q30
                    have q31 : w23 31 = some (kl_aI G 96 oD) := (fr25 _ (by decide)).trans q31
                    have q33 : w23 33 = some (kl_aI G 7 lch) := (fr25 _ (by decide)).trans q33
                    have q34 : w23 34 = some (kl_aI G 7 ((fun t => nI (lco t)))) := (fr25 _ (by decide)).trans q34
                    have q35 : w23 35 = some (kl_aI G 7 lpa) := (fr25 _ (by decide)).trans q35
                    have q36 : w23 36 = some (kl_aI G 7 lwy) := (fr25 _ (by decide)).trans q36
                    have frm : ∀ j : Nat, j ≠ 29 → w23 j = w j := fun j k0 => (fr25 j k0).trans (frm j k0)
                    refine lv_iinc (v := nI (x + 1)) (lv' := [(5, .int (nI (x + 1))), (6, .int (nI (4 * x + lco k))), (3, .int (nI (100 + k))), (0, .ref (B + 26)), (1, .int (nI rw9)), (2, .int key), (4, .int (nI k))]) hx hb dX5_rename_126 hl (k := 6) rfl (nI_1 _) (by decide) rfl (fun ls hl => ?_)
                    refine lv_goto (tgt := 27) hx hb dX5_rename_129 (by decide) ?_
                    exact ih27 (x + 1) (100 + k) ((nI k)) (upd g (4 * x + lco k) key) (by omega) (by first | omega | grind) (Or.inr ⟨k, by omega, rfl, rfl⟩) (hw.put (l0 := k) (x := x) (if_pos c96) (by omega) (fun l p hp => by omega) (fun l z => by omega) ⟨by rw [c96]; decide, (md_ref (by omega) (by omega)).mpr c45⟩ (hrl k (by omega)).2.2.1) (mt_kp.yes (D := (fun l p => (k < l ∧ l < nL) ∨ (l = k ∧ p < x))) (l0 := k) (x := x) (by omega) (fun l p hp => by omega) (fun l p hp z => by omega) ⟨c55, (md_ref (by omega) (by omega)).mpr c45⟩) _ _ _ q26 f24 q30 q31 q33 q34 q35 q36 frm hP ls (lv_sub hl [3, 4, 5, 2, 6, 0] rfl)
        exact lp27 (n + 1) 0 y kv g (Nat.lt_succ_of_le (by omega)) (by first | omega | grind) hwy (hw.same (fun l p hp => by omega)) (hkp.same (fun l p hp => by omega)) _ _ _ q26 f2 q30 q31 q33 q34 q35 q36 frm hP ls (lv_sub hl [1, 2, 3, 4, 5, 0] rfl)
  exact lp19 (nL + 1) nL 0 ((-1)) (upd D (4 * rw9) key) (Nat.lt_succ_of_le (by omega)) (by first | omega | grind) (Or.inl ⟨rfl, rfl⟩) (mt_wr.rf (fun l p hp z => by omega)) (mt_kp.rf (fun l p hp z => by omega)) _ _ _ q26 f2 q30 q31 q33 q34 q35 q36 frm hP ls (lv_sub hl [2, 3, 4, 1, 0] rfl)
