abbrev rm_X5_init : Room := { frames := 1, cells := 20, slots := 872, locals := 12 }
set_option maxHeartbeats 4000000 in
set_option maxRecDepth 100000 in
theorem c_X5_init (l : Launch) (G : kl_G) (B : Nat) (w : kl_M)  (h0 : w 26 = some (.inr (5, [.int (nI 0), .int (nI 0), .int (nI 0), .null, .int (nI 0), .null, .null, .int (nI 0), .null, .null, .null, .int (nI 0), .null, .null, .null, .null, .int (nI 0), .null, .null, .int (nI 0), .null, .null, .null, .int (nI 0), .null, .int (nI 0), .null, .int (nI 0), .null, .null, .null])))  : Met l yX5_init wsX5_init rm_X5_init (kl_Pz G B (B + 27) w [.ref (B + 26)]) (kl_Qz G B 20 (fun w1 => md_KF G B w1 0 0 0 0 0 0 0 0 0 0 0 (fun _ => 0) (fun _ => 0) (fun _ => 0) (fun _ => 0) (fun _ => 0) (fun _ => 0) (fun _ => 0) (fun _ => 0) (fun _ => 0) (fun _ => 0) (fun _ => 0) (fun _ => 0) (fun _ => 0) (fun _ => 0) (fun _ => 0) (fun _ => 0) (fun _ => 0) (fun _ => 0) (fun _ => 0) (fun _ => 0) ∧ ∀ j : Nat, j < 26 → w1 j = w j)) 20 872 (kl_fr B) := by
  refine Met.ofW (cc := cX5_init) (maxL := 1) (ret := none) (by decide) rfl ?_
  intro pg e s m args below meth cd s₁ Bd hml hv
  obtain ⟨rfl, hsz, hP0, hK⟩ := hv
  have hx := Bd.exec
  have hb := Bd.bytes
  have hr := Bd.returns
  have hts := atoms_spec (ws := wsX5_init) Bd.pre
  have hown : s.vm.findClass RX5 = some m.cls := findClass_of_methodNamed Bd.named
  have hlocks := Bd.notSynchronized
  have hin2 : meth.name = "<init>" := (name_of_methodNamed Bd.named Bd.method).1
  have hinX5 : ∀ w ∈ u_ws RX5 TX5 31, w ∈ wsX5_init := by decide +kernel
  have hP := kl_S.rf hP0
  have hl := lv_entry ([.ref (B + 26)]) (n := 1) (Nat.le_of_ble_eq_true rfl)
  rw [lg_entry_eq]
  generalize (lg_sl ([.ref (B + 26)]) ++ List.replicate (1 - (lg_sl ([.ref (B + 26)])).length) Slot.unset).toArray = ls at hl ⊢
  have hl : lv_has ls 1 [(0, .ref (B + 26))] := hl
  have frm : ∀ j : Nat, j < 26 → w j = w j := fun j _  => rfl
  have hz0 : s.heap.size = B + 27 + 0 := hsz
  refine lv_aload_n hx hb dX5_init_0 rfl (lv_at hl 0 rfl) ?_
  refine W.objInit hx hb hown (hts (.methodLink RX5 1 objectInit) (by decide +kernel)) (hts (.instanceMethod objectInit) (by decide +kernel)) (hts (.code objectInit ⟨#[0xb1]⟩ 1 none) (by decide +kernel)) rfl (by rw [hml]; exact hl.1) rfl dX5_init_1 (Nat.le_of_ble_eq_true rfl) (Nat.le_of_ble_eq_true rfl) ?_
  refine W.eq (g2 := F0 m 4 ls []) rfl ?_
  refine lv_aload_n hx hb dX5_init_4 rfl (lv_at hl 0 rfl) ?_
  refine lv_iconst (v := nI 4) hx hb dX5_init_5 (by decide) ?_
  refine kl_newI hx hb (hts (.arrayClass .int) (by decide +kernel)) hK hP (n := 4) (by omega) (Nat.le_of_ble_eq_true rfl) (by first | exact Nat.le_of_ble_eq_true rfl | (show 0 + 4 ≤ 872; omega)) dX5_init_6 (fun a1 w2 H hq5 f3 fr4 hzw2 hP => ?_)
  have z6 : H.size = B + 27 + 1 := by omega
  obtain rfl : 27 = a1 := by omega
  have f3 : w2 27 = some (kl_aI G 4 ((fun _ => 0))) := f3
  have h0 : w2 26 = some (.inr (5, [.int (nI 0), .int (nI 0), .int (nI 0), .null, .int (nI 0), .null, .null, .int (nI 0), .null, .null, .null, .int (nI 0), .null, .null, .null, .null, .int (nI 0), .null, .null, .int (nI 0), .null, .null, .null, .int (nI 0), .null, .int (nI 0), .null, .int (nI 0), .null, .null, .null])) := (fr4 _ (by decide)).trans h0
  have frm : ∀ j : Nat, j < 26 → w2 j = w j := fun j hj  => (fr4 j (by omega)).trans (frm j hj )
  refine kl_putF (C := RX5) (T := TX5) (N := 31) (ci := 5) (v := .ref (B + 27)) (ty := (.array .int)) hx hb hts hinX5 tyX5 tyX5_ok nmX5 hown hK hP h0 rfl 3 (by decide) (hts (.fieldLink RX5 7 "KinLedgerModel" "columns" "[I") (by decide +kernel)) (fun _ h9 => h9) rfl hin2 rfl (by decide +kernel) rfl rfl (Nat.le_of_ble_eq_true rfl) dX5_init_8 (fun w7 H locs f8 fr9 hzw7 hP => ?_)
  have z10 : H.size = B + 27 + 1 := by omega
  have f8 : w7 26 = some (.inr (5, [.int (nI 0), .int (nI 0), .int (nI 0), .ref (B + 27), .int (nI 0), .null, .null, .int (nI 0), .null, .null, .null, .int (nI 0), .null, .null, .null, .null, .int (nI 0), .null, .null, .int (nI 0), .null, .null, .null, .int (nI 0), .null, .int (nI 0), .null, .int (nI 0), .null, .null, .null])) := f8
  have f3 : w7 27 = some (kl_aI G 4 ((fun _ => 0))) := (fr9 _ (by decide)).trans f3
  have frm : ∀ j : Nat, j < 26 → w7 j = w j := fun j hj  => (fr9 j (by omega)).trans (frm j hj )
  refine lv_aload_n hx hb dX5_init_11 rfl (lv_at hl 0 rfl) ?_
  refine lv_bipush (v := nI 24) hx hb dX5_init_12 (by decide) ?_
  refine kl_newI hx hb (hts (.arrayClass .int) (by decide +kernel)) hK hP (n := 24) (by omega) (Nat.le_of_ble_eq_true rfl) (by first | exact Nat.le_of_ble_eq_true rfl | (show 0 + 4 + 24 ≤ 872; omega)) dX5_init_14 (fun a11 w12 H hq15 f13 fr14 hzw12 hP => ?_)
  have z16 : H.size = B + 27 + 2 := by omega
  obtain rfl : 28 = a11 := by omega
  have f13 : w12 28 = some (kl_aI G 24 ((fun _ => 0))) := f13
  have f8 : w12 26 = some (.inr (5, [.int (nI 0), .int (nI 0), .int (nI 0), .ref (B + 27), .int (nI 0), .null, .null, .int (nI 0), .null, .null, .null, .int (nI 0), .null, .null, .null, .null, .int (nI 0), .null, .null, .int (nI 0), .null, .null, .null, .int (nI 0), .null, .int (nI 0), .null, .int (nI 0), .null, .null, .null])) := (fr14 _ (by decide)).trans f8
  have f3 : w12 27 = some (kl_aI G 4 ((fun _ => 0))) := (fr14 _ (by decide)).trans f3
  have frm : ∀ j : Nat, j < 26 → w12 j = w j := fun j hj  => (fr14 j (by omega)).trans (frm j hj )
  refine kl_putF (C := RX5) (T := TX5) (N := 31) (ci := 5) (v := .ref (B + 28)) (ty := (.array .int)) hx hb hts hinX5 tyX5 tyX5_ok nmX5 hown hK hP f8 rfl 5 (by decide) (hts (.fieldLink RX5 13 "KinLedgerModel" "of" "[I") (by decide +kernel)) (fun _ h9 => h9) rfl hin2 rfl (by decide +kernel) rfl rfl (Nat.le_of_ble_eq_true rfl) dX5_init_16 (fun w17 H locs f18 fr19 hzw17 hP => ?_)
  have z20 : H.size = B + 27 + 2 := by omega
  have f18 : w17 26 = some (.inr (5, [.int (nI 0), .int (nI 0), .int (nI 0), .ref (B + 27), .int (nI 0), .ref (B + 28), .null, .int (nI 0), .null, .null, .null, .int (nI 0), .null, .null, .null, .null, .int (nI 0), .null, .null, .int (nI 0), .null, .null, .null, .int (nI 0), .null, .int (nI 0), .null, .int (nI 0), .null, .null, .null])) := f18
  have f3 : w17 27 = some (kl_aI G 4 ((fun _ => 0))) := (fr19 _ (by decide)).trans f3
  have f13 : w17 28 = some (kl_aI G 24 ((fun _ => 0))) := (fr19 _ (by decide)).trans f13
  have frm : ∀ j : Nat, j < 26 → w17 j = w j := fun j hj  => (fr19 j (by omega)).trans (frm j hj )
  refine lv_aload_n hx hb dX5_init_19 rfl (lv_at hl 0 rfl) ?_
  refine lv_bipush (v := nI 96) hx hb dX5_init_20 (by decide) ?_
  refine kl_newI hx hb (hts (.arrayClass .int) (by decide +kernel)) hK hP (n := 96) (by omega) (Nat.le_of_ble_eq_true rfl) (by first | exact Nat.le_of_ble_eq_true rfl | (show 0 + 4 + 24 + 96 ≤ 872; omega)) dX5_init_22 (fun a21 w22 H hq25 f23 fr24 hzw22 hP => ?_)
  have z26 : H.size = B + 27 + 3 := by omega
  obtain rfl : 29 = a21 := by omega
  have f23 : w22 29 = some (kl_aI G 96 ((fun _ => 0))) := f23
  have f18 : w22 26 = some (.inr (5, [.int (nI 0), .int (nI 0), .int (nI 0), .ref (B + 27), .int (nI 0), .ref (B + 28), .null, .int (nI 0), .null, .null, .null, .int (nI 0), .null, .null, .null, .null, .int (nI 0), .null, .null, .int (nI 0), .null, .null, .null, .int (nI 0), .null, .int (nI 0), .null, .int (nI 0), .null, .null, .null])) := (fr24 _ (by decide)).trans f18
  have f3 : w22 27 = some (kl_aI G 4 ((fun _ => 0))) := (fr24 _ (by decide)).trans f3
  have f13 : w22 28 = some (kl_aI G 24 ((fun _ => 0))) := (fr24 _ (by decide)).trans f13
  have frm : ∀ j : Nat, j < 26 → w22 j = w j := fun j hj  => (fr24 j (by omega)).trans (frm j hj )
  refine kl_putF (C := RX5) (T := TX5) (N := 31) (ci := 5) (v := .ref (B + 29)) (ty := (.array .int)) hx hb hts hinX5 tyX5 tyX5_ok nmX5 hown hK hP f18 rfl 6 (by decide) (hts (.fieldLink RX5 16 "KinLedgerModel" "cells" "[I") (by decide +kernel)) (fun _ h9 => h9) rfl hin2 rfl (by decide +kernel) rfl rfl (Nat.le_of_ble_eq_true rfl) dX5_init_24 (fun w27 H locs f28 fr29 hzw27 hP => ?_)
  have z30 : H.size = B + 27 + 3 := by omega
  have f28 : w27 26 = some (.inr (5, [.int (nI 0), .int (nI 0), .int (nI 0), .ref (B + 27), .int (nI 0), .ref (B + 28), .ref (B + 29), .int (nI 0), .null, .null, .null, .int (nI 0), .null, .null, .null, .null, .int (nI 0), .null, .null, .int (nI 0), .null, .null, .null, .int (nI 0), .null, .int (nI 0), .null, .int (nI 0), .null, .null, .null])) := f28
  have f3 : w27 27 = some (kl_aI G 4 ((fun _ => 0))) := (fr29 _ (by decide)).trans f3
  have f13 : w27 28 = some (kl_aI G 24 ((fun _ => 0))) := (fr29 _ (by decide)).trans f13
  have f23 : w27 29 = some (kl_aI G 96 ((fun _ => 0))) := (fr29 _ (by decide)).trans f23
  have frm : ∀ j : Nat, j < 26 → w27 j = w j := fun j hj  => (fr29 j (by omega)).trans (frm j hj )
  refine lv_aload_n hx hb dX5_init_27 rfl (lv_at hl 0 rfl) ?_
  refine lv_bipush (v := nI 24) hx hb dX5_init_28 (by decide) ?_
  refine kl_newI hx hb (hts (.arrayClass .int) (by decide +kernel)) hK hP (n := 24) (by omega) (Nat.le_of_ble_eq_true rfl) (by first | exact Nat.le_of_ble_eq_true rfl | (show 0 + 4 + 24 + 96 + 24 ≤ 872; omega)) dX5_init_30 (fun a31 w32 H hq35 f33 fr34 hzw32 hP => ?_)
  have z36 : H.size = B + 27 + 4 := by omega
  obtain rfl : 30 = a31 := by omega
  have f33 : w32 30 = some (kl_aI G 24 ((fun _ => 0))) := f33
  have f28 : w32 26 = some (.inr (5, [.int (nI 0), .int (nI 0), .int (nI 0), .ref (B + 27), .int (nI 0), .ref (B + 28), .ref (B + 29), .int (nI 0), .null, .null, .null, .int (nI 0), .null, .null, .null, .null, .int (nI 0), .null, .null, .int (nI 0), .null, .null, .null, .int (nI 0), .null, .int (nI 0), .null, .int (nI 0), .null, .null, .null])) := (fr34 _ (by decide)).trans f28
  have f3 : w32 27 = some (kl_aI G 4 ((fun _ => 0))) := (fr34 _ (by decide)).trans f3
  have f13 : w32 28 = some (kl_aI G 24 ((fun _ => 0))) := (fr34 _ (by decide)).trans f13
  have f23 : w32 29 = some (kl_aI G 96 ((fun _ => 0))) := (fr34 _ (by decide)).trans f23
  have frm : ∀ j : Nat, j < 26 → w32 j = w j := fun j hj  => (fr34 j (by omega)).trans (frm j hj )
  refine kl_putF (C := RX5) (T := TX5) (N := 31) (ci := 5) (v := .ref (B + 30)) (ty := (.array .int)) hx hb hts hinX5 tyX5 tyX5_ok nmX5 hown hK hP f28 rfl 8 (by decide) (hts (.fieldLink RX5 19 "KinLedgerModel" "oldOf" "[I") (by decide +kernel)) (fun _ h9 => h9) rfl hin2 rfl (by decide +kernel) rfl rfl (Nat.le_of_ble_eq_true rfl) dX5_init_32 (fun w37 H locs f38 fr39 hzw37 hP => ?_)
  have z40 : H.size = B + 27 + 4 := by omega
  have f38 : w37 26 = some (.inr (5, [.int (nI 0), .int (nI 0), .int (nI 0), .ref (B + 27), .int (nI 0), .ref (B + 28), .ref (B + 29), .int (nI 0), .ref (B + 30), .null, .null, .int (nI 0), .null, .null, .null, .null, .int (nI 0), .null, .null, .int (nI 0), .null, .null, .null, .int (nI 0), .null, .int (nI 0), .null, .int (nI 0), .null, .null, .null])) := f38
  have f3 : w37 27 = some (kl_aI G 4 ((fun _ => 0))) := (fr39 _ (by decide)).trans f3
  have f13 : w37 28 = some (kl_aI G 24 ((fun _ => 0))) := (fr39 _ (by decide)).trans f13
  have f23 : w37 29 = some (kl_aI G 96 ((fun _ => 0))) := (fr39 _ (by decide)).trans f23
  have f33 : w37 30 = some (kl_aI G 24 ((fun _ => 0))) := (fr39 _ (by decide)).trans f33
  have frm : ∀ j : Nat, j < 26 → w37 j = w j := fun j hj  => (fr39 j (by omega)).trans (frm j hj )
  refine lv_aload_n hx hb dX5_init_35 rfl (lv_at hl 0 rfl) ?_
  refine lv_bipush (v := nI 96) hx hb dX5_init_36 (by decide) ?_
  refine kl_newI hx hb (hts (.arrayClass .int) (by decide +kernel)) hK hP (n := 96) (by omega) (Nat.le_of_ble_eq_true rfl) (by first | exact Nat.le_of_ble_eq_true rfl | (show 0 + 4 + 24 + 96 + 24 + 96 ≤ 872; omega)) dX5_init_38 (fun a41 w42 H hq45 f43 fr44 hzw42 hP => ?_)
  have z46 : H.size = B + 27 + 5 := by omega
  obtain rfl : 31 = a41 := by omega
  have f43 : w42 31 = some (kl_aI G 96 ((fun _ => 0))) := f43
  have f38 : w42 26 = some (.inr (5, [.int (nI 0), .int (nI 0), .int (nI 0), .ref (B + 27), .int (nI 0), .ref (B + 28), .ref (B + 29), .int (nI 0), .ref (B + 30), .null, .null, .int (nI 0), .null, .null, .null, .null, .int (nI 0), .null, .null, .int (nI 0), .null, .null, .null, .int (nI 0), .null, .int (nI 0), .null, .int (nI 0), .null, .null, .null])) := (fr44 _ (by decide)).trans f38
  have f3 : w42 27 = some (kl_aI G 4 ((fun _ => 0))) := (fr44 _ (by decide)).trans f3
  have f13 : w42 28 = some (kl_aI G 24 ((fun _ => 0))) := (fr44 _ (by decide)).trans f13
  have f23 : w42 29 = some (kl_aI G 96 ((fun _ => 0))) := (fr44 _ (by decide)).trans f23
  have f33 : w42 30 = some (kl_aI G 24 ((fun _ => 0))) := (fr44 _ (by decide)).trans f33
  have frm : ∀ j : Nat, j < 26 → w42 j = w j := fun j hj  => (fr44 j (by omega)).trans (frm j hj )
  refine kl_putF (C := RX5) (T := TX5) (N := 31) (ci := 5) (v := .ref (B + 31)) (ty := (.array .int)) hx hb hts hinX5 tyX5 tyX5_ok nmX5 hown hK hP f38 rfl 9 (by decide) (hts (.fieldLink RX5 22 "KinLedgerModel" "old" "[I") (by decide +kernel)) (fun _ h9 => h9) rfl hin2 rfl (by decide +kernel) rfl rfl (Nat.le_of_ble_eq_true rfl) dX5_init_40 (fun w47 H locs f48 fr49 hzw47 hP => ?_)
  have z50 : H.size = B + 27 + 5 := by omega
  have f48 : w47 26 = some (.inr (5, [.int (nI 0), .int (nI 0), .int (nI 0), .ref (B + 27), .int (nI 0), .ref (B + 28), .ref (B + 29), .int (nI 0), .ref (B + 30), .ref (B + 31), .null, .int (nI 0), .null, .null, .null, .null, .int (nI 0), .null, .null, .int (nI 0), .null, .null, .null, .int (nI 0), .null, .int (nI 0), .null, .int (nI 0), .null, .null, .null])) := f48
  have f3 : w47 27 = some (kl_aI G 4 ((fun _ => 0))) := (fr49 _ (by decide)).trans f3
  have f13 : w47 28 = some (kl_aI G 24 ((fun _ => 0))) := (fr49 _ (by decide)).trans f13
  have f23 : w47 29 = some (kl_aI G 96 ((fun _ => 0))) := (fr49 _ (by decide)).trans f23
  have f33 : w47 30 = some (kl_aI G 24 ((fun _ => 0))) := (fr49 _ (by decide)).trans f33
  have f43 : w47 31 = some (kl_aI G 96 ((fun _ => 0))) := (fr49 _ (by decide)).trans f43
  have frm : ∀ j : Nat, j < 26 → w47 j = w j := fun j hj  => (fr49 j (by omega)).trans (frm j hj )
  refine lv_aload_n hx hb dX5_init_43 rfl (lv_at hl 0 rfl) ?_
  refine lv_bipush (v := nI 24) hx hb dX5_init_44 (by decide) ?_
  refine kl_newZ hx hb (hts (.arrayClass .boolean) (by decide +kernel)) hK hP (n := 24) (by omega) (Nat.le_of_ble_eq_true rfl) (by first | exact Nat.le_of_ble_eq_true rfl | (show 0 + 4 + 24 + 96 + 24 + 96 + 24 ≤ 872; omega)) dX5_init_46 (fun a51 w52 H hq55 f53 fr54 hzw52 hP => ?_)
  have z56 : H.size = B + 27 + 6 := by omega
  obtain rfl : 32 = a51 := by omega
  have f53 : w52 32 = some (kl_aZ G 24 ((fun _ => 0))) := f53
  have f48 : w52 26 = some (.inr (5, [.int (nI 0), .int (nI 0), .int (nI 0), .ref (B + 27), .int (nI 0), .ref (B + 28), .ref (B + 29), .int (nI 0), .ref (B + 30), .ref (B + 31), .null, .int (nI 0), .null, .null, .null, .null, .int (nI 0), .null, .null, .int (nI 0), .null, .null, .null, .int (nI 0), .null, .int (nI 0), .null, .int (nI 0), .null, .null, .null])) := (fr54 _ (by decide)).trans f48
  have f3 : w52 27 = some (kl_aI G 4 ((fun _ => 0))) := (fr54 _ (by decide)).trans f3
  have f13 : w52 28 = some (kl_aI G 24 ((fun _ => 0))) := (fr54 _ (by decide)).trans f13
  have f23 : w52 29 = some (kl_aI G 96 ((fun _ => 0))) := (fr54 _ (by decide)).trans f23
  have f33 : w52 30 = some (kl_aI G 24 ((fun _ => 0))) := (fr54 _ (by decide)).trans f33
  have f43 : w52 31 = some (kl_aI G 96 ((fun _ => 0))) := (fr54 _ (by decide)).trans f43
  have frm : ∀ j : Nat, j < 26 → w52 j = w j := fun j hj  => (fr54 j (by omega)).trans (frm j hj )
  refine kl_putF (C := RX5) (T := TX5) (N := 31) (ci := 5) (v := .ref (B + 32)) (ty := (.array .boolean)) hx hb hts hinX5 tyX5 tyX5_ok nmX5 hown hK hP f48 rfl 10 (by decide) (hts (.fieldLink RX5 25 "KinLedgerModel" "gone" "[Z") (by decide +kernel)) (fun _ h9 => h9) rfl hin2 rfl (by decide +kernel) rfl rfl (Nat.le_of_ble_eq_true rfl) dX5_init_48 (fun w57 H locs f58 fr59 hzw57 hP => ?_)
  have z60 : H.size = B + 27 + 6 := by omega
  have f58 : w57 26 = some (.inr (5, [.int (nI 0), .int (nI 0), .int (nI 0), .ref (B + 27), .int (nI 0), .ref (B + 28), .ref (B + 29), .int (nI 0), .ref (B + 30), .ref (B + 31), .ref (B + 32), .int (nI 0), .null, .null, .null, .null, .int (nI 0), .null, .null, .int (nI 0), .null, .null, .null, .int (nI 0), .null, .int (nI 0), .null, .int (nI 0), .null, .null, .null])) := f58
  have f3 : w57 27 = some (kl_aI G 4 ((fun _ => 0))) := (fr59 _ (by decide)).trans f3
  have f13 : w57 28 = some (kl_aI G 24 ((fun _ => 0))) := (fr59 _ (by decide)).trans f13
  have f23 : w57 29 = some (kl_aI G 96 ((fun _ => 0))) := (fr59 _ (by decide)).trans f23
  have f33 : w57 30 = some (kl_aI G 24 ((fun _ => 0))) := (fr59 _ (by decide)).trans f33
  have f43 : w57 31 = some (kl_aI G 96 ((fun _ => 0))) := (fr59 _ (by decide)).trans f43
  have f53 : w57 32 = some (kl_aZ G 24 ((fun _ => 0))) := (fr59 _ (by decide)).trans f53
  have frm : ∀ j : Nat, j < 26 → w57 j = w j := fun j hj  => (fr59 j (by omega)).trans (frm j hj )
  refine lv_aload_n hx hb dX5_init_51 rfl (lv_at hl 0 rfl) ?_
  refine lv_bipush (v := nI 7) hx hb dX5_init_52 (by decide) ?_
  refine kl_newI hx hb (hts (.arrayClass .int) (by decide +kernel)) hK hP (n := 7) (by omega) (Nat.le_of_ble_eq_true rfl) (by first | exact Nat.le_of_ble_eq_true rfl | (show 0 + 4 + 24 + 96 + 24 + 96 + 24 + 7 ≤ 872; omega)) dX5_init_54 (fun a61 w62 H hq65 f63 fr64 hzw62 hP => ?_)
  have z66 : H.size = B + 27 + 7 := by omega
  obtain rfl : 33 = a61 := by omega
  have f63 : w62 33 = some (kl_aI G 7 ((fun _ => 0))) := f63
  have f58 : w62 26 = some (.inr (5, [.int (nI 0), .int (nI 0), .int (nI 0), .ref (B + 27), .int (nI 0), .ref (B + 28), .ref (B + 29), .int (nI 0), .ref (B + 30), .ref (B + 31), .ref (B + 32), .int (nI 0), .null, .null, .null, .null, .int (nI 0), .null, .null, .int (nI 0), .null, .null, .null, .int (nI 0), .null, .int (nI 0), .null, .int (nI 0), .null, .null, .null])) := (fr64 _ (by decide)).trans f58
  have f3 : w62 27 = some (kl_aI G 4 ((fun _ => 0))) := (fr64 _ (by decide)).trans f3
  have f13 : w62 28 = some (kl_aI G 24 ((fun _ => 0))) := (fr64 _ (by decide)).trans f13
  have f23 : w62 29 = some (kl_aI G 96 ((fun _ => 0))) := (fr64 _ (by decide)).trans f23
  have f33 : w62 30 = some (kl_aI G 24 ((fun _ => 0))) := (fr64 _ (by decide)).trans f33
  have f43 : w62 31 = some (kl_aI G 96 ((fun _ => 0))) := (fr64 _ (by decide)).trans f43
  have f53 : w62 32 = some (kl_aZ G 24 ((fun _ => 0))) := (fr64 _ (by decide)).trans f53
  have frm : ∀ j : Nat, j < 26 → w62 j = w j := fun j hj  => (fr64 j (by omega)).trans (frm j hj )
  refine kl_putF (C := RX5) (T := TX5) (N := 31) (ci := 5) (v := .ref (B + 33)) (ty := (.array .int)) hx hb hts hinX5 tyX5 tyX5_ok nmX5 hown hK hP f58 rfl 12 (by decide) (hts (.fieldLink RX5 29 "KinLedgerModel" "child" "[I") (by decide +kernel)) (fun _ h9 => h9) rfl hin2 rfl (by decide +kernel) rfl rfl (Nat.le_of_ble_eq_true rfl) dX5_init_56 (fun w67 H locs f68 fr69 hzw67 hP => ?_)
  have z70 : H.size = B + 27 + 7 := by omega
  have f68 : w67 26 = some (.inr (5, [.int (nI 0), .int (nI 0), .int (nI 0), .ref (B + 27), .int (nI 0), .ref (B + 28), .ref (B + 29), .int (nI 0), .ref (B + 30), .ref (B + 31), .ref (B + 32), .int (nI 0), .ref (B + 33), .null, .null, .null, .int (nI 0), .null, .null, .int (nI 0), .null, .null, .null, .int (nI 0), .null, .int (nI 0), .null, .int (nI 0), .null, .null, .null])) := f68
  have f3 : w67 27 = some (kl_aI G 4 ((fun _ => 0))) := (fr69 _ (by decide)).trans f3
  have f13 : w67 28 = some (kl_aI G 24 ((fun _ => 0))) := (fr69 _ (by decide)).trans f13
  have f23 : w67 29 = some (kl_aI G 96 ((fun _ => 0))) := (fr69 _ (by decide)).trans f23
  have f33 : w67 30 = some (kl_aI G 24 ((fun _ => 0))) := (fr69 _ (by decide)).trans f33
  have f43 : w67 31 = some (kl_aI G 96 ((fun _ => 0))) := (fr69 _ (by decide)).trans f43
  have f53 : w67 32 = some (kl_aZ G 24 ((fun _ => 0))) := (fr69 _ (by decide)).trans f53
  have f63 : w67 33 = some (kl_aI G 7 ((fun _ => 0))) := (fr69 _ (by decide)).trans f63
  have frm : ∀ j : Nat, j < 26 → w67 j = w j := fun j hj  => (fr69 j (by omega)).trans (frm j hj )
  refine lv_aload_n hx hb dX5_init_59 rfl (lv_at hl 0 rfl) ?_
  refine lv_bipush (v := nI 7) hx hb dX5_init_60 (by decide) ?_
  refine kl_newI hx hb (hts (.arrayClass .int) (by decide +kernel)) hK hP (n := 7) (by omega) (Nat.le_of_ble_eq_true rfl) (by first | exact Nat.le_of_ble_eq_true rfl | (show 0 + 4 + 24 + 96 + 24 + 96 + 24 + 7 + 7 ≤ 872; omega)) dX5_init_62 (fun a71 w72 H hq75 f73 fr74 hzw72 hP => ?_)
  have z76 : H.size = B + 27 + 8 := by omega
  obtain rfl : 34 = a71 := by omega
  have f73 : w72 34 = some (kl_aI G 7 ((fun _ => 0))) := f73
  have f68 : w72 26 = some (.inr (5, [.int (nI 0), .int (nI 0), .int (nI 0), .ref (B + 27), .int (nI 0), .ref (B + 28), .ref (B + 29), .int (nI 0), .ref (B + 30), .ref (B + 31), .ref (B + 32), .int (nI 0), .ref (B + 33), .null, .null, .null, .int (nI 0), .null, .null, .int (nI 0), .null, .null, .null, .int (nI 0), .null, .int (nI 0), .null, .int (nI 0), .null, .null, .null])) := (fr74 _ (by decide)).trans f68
  have f3 : w72 27 = some (kl_aI G 4 ((fun _ => 0))) := (fr74 _ (by decide)).trans f3
  have f13 : w72 28 = some (kl_aI G 24 ((fun _ => 0))) := (fr74 _ (by decide)).trans f13
  have f23 : w72 29 = some (kl_aI G 96 ((fun _ => 0))) := (fr74 _ (by decide)).trans f23
  have f33 : w72 30 = some (kl_aI G 24 ((fun _ => 0))) := (fr74 _ (by decide)).trans f33
  have f43 : w72 31 = some (kl_aI G 96 ((fun _ => 0))) := (fr74 _ (by decide)).trans f43
  have f53 : w72 32 = some (kl_aZ G 24 ((fun _ => 0))) := (fr74 _ (by decide)).trans f53
  have f63 : w72 33 = some (kl_aI G 7 ((fun _ => 0))) := (fr74 _ (by decide)).trans f63
  have frm : ∀ j : Nat, j < 26 → w72 j = w j := fun j hj  => (fr74 j (by omega)).trans (frm j hj )
  refine kl_putF (C := RX5) (T := TX5) (N := 31) (ci := 5) (v := .ref (B + 34)) (ty := (.array .int)) hx hb hts hinX5 tyX5 tyX5_ok nmX5 hown hK hP f68 rfl 13 (by decide) (hts (.fieldLink RX5 32 "KinLedgerModel" "linkColumn" "[I") (by decide +kernel)) (fun _ h9 => h9) rfl hin2 rfl (by decide +kernel) rfl rfl (Nat.le_of_ble_eq_true rfl) dX5_init_64 (fun w77 H locs f78 fr79 hzw77 hP => ?_)
  have z80 : H.size = B + 27 + 8 := by omega
  have f78 : w77 26 = some (.inr (5, [.int (nI 0), .int (nI 0), .int (nI 0), .ref (B + 27), .int (nI 0), .ref (B + 28), .ref (B + 29), .int (nI 0), .ref (B + 30), .ref (B + 31), .ref (B + 32), .int (nI 0), .ref (B + 33), .ref (B + 34), .null, .null, .int (nI 0), .null, .null, .int (nI 0), .null, .null, .null, .int (nI 0), .null, .int (nI 0), .null, .int (nI 0), .null, .null, .null])) := f78
  have f3 : w77 27 = some (kl_aI G 4 ((fun _ => 0))) := (fr79 _ (by decide)).trans f3
  have f13 : w77 28 = some (kl_aI G 24 ((fun _ => 0))) := (fr79 _ (by decide)).trans f13
  have f23 : w77 29 = some (kl_aI G 96 ((fun _ => 0))) := (fr79 _ (by decide)).trans f23
  have f33 : w77 30 = some (kl_aI G 24 ((fun _ => 0))) := (fr79 _ (by decide)).trans f33
  have f43 : w77 31 = some (kl_aI G 96 ((fun _ => 0))) := (fr79 _ (by decide)).trans f43
  have f53 : w77 32 = some (kl_aZ G 24 ((fun _ => 0))) := (fr79 _ (by decide)).trans f53
  have f63 : w77 33 = some (kl_aI G 7 ((fun _ => 0))) := (fr79 _ (by decide)).trans f63
  have f73 : w77 34 = some (kl_aI G 7 ((fun _ => 0))) := (fr79 _ (by decide)).trans f73
  have frm : ∀ j : Nat, j < 26 → w77 j = w j := fun j hj  => (fr79 j (by omega)).trans (frm j hj )
  refine lv_aload_n hx hb dX5_init_67 rfl (lv_at hl 0 rfl) ?_
  refine lv_bipush (v := nI 7) hx hb dX5_init_68 (by decide) ?_
  refine kl_newI hx hb (hts (.arrayClass .int) (by decide +kernel)) hK hP (n := 7) (by omega) (Nat.le_of_ble_eq_true rfl) (by first | exact Nat.le_of_ble_eq_true rfl | (show 0 + 4 + 24 + 96 + 24 + 96 + 24 + 7 + 7 + 7 ≤ 872; omega)) dX5_init_70 (fun a81 w82 H hq85 f83 fr84 hzw82 hP => ?_)
  have z86 : H.size = B + 27 + 9 := by omega
  obtain rfl : 35 = a81 := by omega
  have f83 : w82 35 = some (kl_aI G 7 ((fun _ => 0))) := f83
  have f78 : w82 26 = some (.inr (5, [.int (nI 0), .int (nI 0), .int (nI 0), .ref (B + 27), .int (nI 0), .ref (B + 28), .ref (B + 29), .int (nI 0), .ref (B + 30), .ref (B + 31), .ref (B + 32), .int (nI 0), .ref (B + 33), .ref (B + 34), .null, .null, .int (nI 0), .null, .null, .int (nI 0), .null, .null, .null, .int (nI 0), .null, .int (nI 0), .null, .int (nI 0), .null, .null, .null])) := (fr84 _ (by decide)).trans f78
  have f3 : w82 27 = some (kl_aI G 4 ((fun _ => 0))) := (fr84 _ (by decide)).trans f3
  have f13 : w82 28 = some (kl_aI G 24 ((fun _ => 0))) := (fr84 _ (by decide)).trans f13
  have f23 : w82 29 = some (kl_aI G 96 ((fun _ => 0))) := (fr84 _ (by decide)).trans f23
  have f33 : w82 30 = some (kl_aI G 24 ((fun _ => 0))) := (fr84 _ (by decide)).trans f33
  have f43 : w82 31 = some (kl_aI G 96 ((fun _ => 0))) := (fr84 _ (by decide)).trans f43
  have f53 : w82 32 = some (kl_aZ G 24 ((fun _ => 0))) := (fr84 _ (by decide)).trans f53
  have f63 : w82 33 = some (kl_aI G 7 ((fun _ => 0))) := (fr84 _ (by decide)).trans f63
  have f73 : w82 34 = some (kl_aI G 7 ((fun _ => 0))) := (fr84 _ (by decide)).trans f73
  have frm : ∀ j : Nat, j < 26 → w82 j = w j := fun j hj  => (fr84 j (by omega)).trans (frm j hj )
  refine kl_putF (C := RX5) (T := TX5) (N := 31) (ci := 5) (v := .ref (B + 35)) (ty := (.array .int)) hx hb hts hinX5 tyX5 tyX5_ok nmX5 hown hK hP f78 rfl 14 (by decide) (hts (.fieldLink RX5 35 "KinLedgerModel" "parent" "[I") (by decide +kernel)) (fun _ h9 => h9) rfl hin2 rfl (by decide +kernel) rfl rfl (Nat.le_of_ble_eq_true rfl) dX5_init_72 (fun w87 H locs f88 fr89 hzw87 hP => ?_)
  have z90 : H.size = B + 27 + 9 := by omega
  have f88 : w87 26 = some (.inr (5, [.int (nI 0), .int (nI 0), .int (nI 0), .ref (B + 27), .int (nI 0), .ref (B + 28), .ref (B + 29), .int (nI 0), .ref (B + 30), .ref (B + 31), .ref (B + 32), .int (nI 0), .ref (B + 33), .ref (B + 34), .ref (B + 35), .null, .int (nI 0), .null, .null, .int (nI 0), .null, .null, .null, .int (nI 0), .null, .int (nI 0), .null, .int (nI 0), .null, .null, .null])) := f88
  have f3 : w87 27 = some (kl_aI G 4 ((fun _ => 0))) := (fr89 _ (by decide)).trans f3
  have f13 : w87 28 = some (kl_aI G 24 ((fun _ => 0))) := (fr89 _ (by decide)).trans f13
  have f23 : w87 29 = some (kl_aI G 96 ((fun _ => 0))) := (fr89 _ (by decide)).trans f23
  have f33 : w87 30 = some (kl_aI G 24 ((fun _ => 0))) := (fr89 _ (by decide)).trans f33
  have f43 : w87 31 = some (kl_aI G 96 ((fun _ => 0))) := (fr89 _ (by decide)).trans f43
  have f53 : w87 32 = some (kl_aZ G 24 ((fun _ => 0))) := (fr89 _ (by decide)).trans f53
  have f63 : w87 33 = some (kl_aI G 7 ((fun _ => 0))) := (fr89 _ (by decide)).trans f63
  have f73 : w87 34 = some (kl_aI G 7 ((fun _ => 0))) := (fr89 _ (by decide)).trans f73
  have f83 : w87 35 = some (kl_aI G 7 ((fun _ => 0))) := (fr89 _ (by decide)).trans f83
  have frm : ∀ j : Nat, j < 26 → w87 j = w j := fun j hj  => (fr89 j (by omega)).trans (frm j hj )
  refine lv_aload_n hx hb dX5_init_75 rfl (lv_at hl 0 rfl) ?_
  refine lv_bipush (v := nI 7) hx hb dX5_init_76 (by decide) ?_
  refine kl_newI hx hb (hts (.arrayClass .int) (by decide +kernel)) hK hP (n := 7) (by omega) (Nat.le_of_ble_eq_true rfl) (by first | exact Nat.le_of_ble_eq_true rfl | (show 0 + 4 + 24 + 96 + 24 + 96 + 24 + 7 + 7 + 7 + 7 ≤ 872; omega)) dX5_init_78 (fun a91 w92 H hq95 f93 fr94 hzw92 hP => ?_)
  have z96 : H.size = B + 27 + 10 := by omega
  obtain rfl : 36 = a91 := by omega
  have f93 : w92 36 = some (kl_aI G 7 ((fun _ => 0))) := f93
  have f88 : w92 26 = some (.inr (5, [.int (nI 0), .int (nI 0), .int (nI 0), .ref (B + 27), .int (nI 0), .ref (B + 28), .ref (B + 29), .int (nI 0), .ref (B + 30), .ref (B + 31), .ref (B + 32), .int (nI 0), .ref (B + 33), .ref (B + 34), .ref (B + 35), .null, .int (nI 0), .null, .null, .int (nI 0), .null, .null, .null, .int (nI 0), .null, .int (nI 0), .null, .int (nI 0), .null, .null, .null])) := (fr94 _ (by decide)).trans f88
  have f3 : w92 27 = some (kl_aI G 4 ((fun _ => 0))) := (fr94 _ (by decide)).trans f3
  have f13 : w92 28 = some (kl_aI G 24 ((fun _ => 0))) := (fr94 _ (by decide)).trans f13
  have f23 : w92 29 = some (kl_aI G 96 ((fun _ => 0))) := (fr94 _ (by decide)).trans f23
  have f33 : w92 30 = some (kl_aI G 24 ((fun _ => 0))) := (fr94 _ (by decide)).trans f33
  have f43 : w92 31 = some (kl_aI G 96 ((fun _ => 0))) := (fr94 _ (by decide)).trans f43
  have f53 : w92 32 = some (kl_aZ G 24 ((fun _ => 0))) := (fr94 _ (by decide)).trans f53
  have f63 : w92 33 = some (kl_aI G 7 ((fun _ => 0))) := (fr94 _ (by decide)).trans f63
  have f73 : w92 34 = some (kl_aI G 7 ((fun _ => 0))) := (fr94 _ (by decide)).trans f73
  have f83 : w92 35 = some (kl_aI G 7 ((fun _ => 0))) := (fr94 _ (by decide)).trans f83
  have frm : ∀ j : Nat, j < 26 → w92 j = w j := fun j hj  => (fr94 j (by omega)).trans (frm j hj )
  refine kl_putF (C := RX5) (T := TX5) (N := 31) (ci := 5) (v := .ref (B + 36)) (ty := (.array .int)) hx hb hts hinX5 tyX5 tyX5_ok nmX5 hown hK hP f88 rfl 15 (by decide) (hts (.fieldLink RX5 38 "KinLedgerModel" "ways" "[I") (by decide +kernel)) (fun _ h9 => h9) rfl hin2 rfl (by decide +kernel) rfl rfl (Nat.le_of_ble_eq_true rfl) dX5_init_80 (fun w97 H locs f98 fr99 hzw97 hP => ?_)
  have z100 : H.size = B + 27 + 10 := by omega
  have f98 : w97 26 = some (.inr (5, [.int (nI 0), .int (nI 0), .int (nI 0), .ref (B + 27), .int (nI 0), .ref (B + 28), .ref (B + 29), .int (nI 0), .ref (B + 30), .ref (B + 31), .ref (B + 32), .int (nI 0), .ref (B + 33), .ref (B + 34), .ref (B + 35), .ref (B + 36), .int (nI 0), .null, .null, .int (nI 0), .null, .null, .null, .int (nI 0), .null, .int (nI 0), .null, .int (nI 0), .null, .null, .null])) := f98
  have f3 : w97 27 = some (kl_aI G 4 ((fun _ => 0))) := (fr99 _ (by decide)).trans f3
  have f13 : w97 28 = some (kl_aI G 24 ((fun _ => 0))) := (fr99 _ (by decide)).trans f13
  have f23 : w97 29 = some (kl_aI G 96 ((fun _ => 0))) := (fr99 _ (by decide)).trans f23
  have f33 : w97 30 = some (kl_aI G 24 ((fun _ => 0))) := (fr99 _ (by decide)).trans f33
  have f43 : w97 31 = some (kl_aI G 96 ((fun _ => 0))) := (fr99 _ (by decide)).trans f43
  have f53 : w97 32 = some (kl_aZ G 24 ((fun _ => 0))) := (fr99 _ (by decide)).trans f53
  have f63 : w97 33 = some (kl_aI G 7 ((fun _ => 0))) := (fr99 _ (by decide)).trans f63
  have f73 : w97 34 = some (kl_aI G 7 ((fun _ => 0))) := (fr99 _ (by decide)).trans f73
  have f83 : w97 35 = some (kl_aI G 7 ((fun _ => 0))) := (fr99 _ (by decide)).trans f83
  have f93 : w97 36 = some (kl_aI G 7 ((fun _ => 0))) := (fr99 _ (by decide)).trans f93
  have frm : ∀ j : Nat, j < 26 → w97 j = w j := fun j hj  => (fr99 j (by omega)).trans (frm j hj )
  refine lv_aload_n hx hb dX5_init_83 rfl (lv_at hl 0 rfl) ?_
  refine lv_iconst (v := nI 5) hx hb dX5_init_84 (by decide) ?_
  refine kl_newI hx hb (hts (.arrayClass .int) (by decide +kernel)) hK hP (n := 5) (by omega) (Nat.le_of_ble_eq_true rfl) (by first | exact Nat.le_of_ble_eq_true rfl | (show 0 + 4 + 24 + 96 + 24 + 96 + 24 + 7 + 7 + 7 + 7 + 5 ≤ 872; omega)) dX5_init_85 (fun a101 w102 H hq105 f103 fr104 hzw102 hP => ?_)
  have z106 : H.size = B + 27 + 11 := by omega
  obtain rfl : 37 = a101 := by omega
  have f103 : w102 37 = some (kl_aI G 5 ((fun _ => 0))) := f103
  have f98 : w102 26 = some (.inr (5, [.int (nI 0), .int (nI 0), .int (nI 0), .ref (B + 27), .int (nI 0), .ref (B + 28), .ref (B + 29), .int (nI 0), .ref (B + 30), .ref (B + 31), .ref (B + 32), .int (nI 0), .ref (B + 33), .ref (B + 34), .ref (B + 35), .ref (B + 36), .int (nI 0), .null, .null, .int (nI 0), .null, .null, .null, .int (nI 0), .null, .int (nI 0), .null, .int (nI 0), .null, .null, .null])) := (fr104 _ (by decide)).trans f98
  have f3 : w102 27 = some (kl_aI G 4 ((fun _ => 0))) := (fr104 _ (by decide)).trans f3
  have f13 : w102 28 = some (kl_aI G 24 ((fun _ => 0))) := (fr104 _ (by decide)).trans f13
  have f23 : w102 29 = some (kl_aI G 96 ((fun _ => 0))) := (fr104 _ (by decide)).trans f23
  have f33 : w102 30 = some (kl_aI G 24 ((fun _ => 0))) := (fr104 _ (by decide)).trans f33
  have f43 : w102 31 = some (kl_aI G 96 ((fun _ => 0))) := (fr104 _ (by decide)).trans f43
  have f53 : w102 32 = some (kl_aZ G 24 ((fun _ => 0))) := (fr104 _ (by decide)).trans f53
  have f63 : w102 33 = some (kl_aI G 7 ((fun _ => 0))) := (fr104 _ (by decide)).trans f63
  have f73 : w102 34 = some (kl_aI G 7 ((fun _ => 0))) := (fr104 _ (by decide)).trans f73
  have f83 : w102 35 = some (kl_aI G 7 ((fun _ => 0))) := (fr104 _ (by decide)).trans f83
  have f93 : w102 36 = some (kl_aI G 7 ((fun _ => 0))) := (fr104 _ (by decide)).trans f93
  have frm : ∀ j : Nat, j < 26 → w102 j = w j := fun j hj  => (fr104 j (by omega)).trans (frm j hj )
  refine kl_putF (C := RX5) (T := TX5) (N := 31) (ci := 5) (v := .ref (B + 37)) (ty := (.array .int)) hx hb hts hinX5 tyX5 tyX5_ok nmX5 hown hK hP f98 rfl 17 (by decide) (hts (.fieldLink RX5 41 "KinLedgerModel" "singleTable" "[I") (by decide +kernel)) (fun _ h9 => h9) rfl hin2 rfl (by decide +kernel) rfl rfl (Nat.le_of_ble_eq_true rfl) dX5_init_87 (fun w107 H locs f108 fr109 hzw107 hP => ?_)
  have z110 : H.size = B + 27 + 11 := by omega
  have f108 : w107 26 = some (.inr (5, [.int (nI 0), .int (nI 0), .int (nI 0), .ref (B + 27), .int (nI 0), .ref (B + 28), .ref (B + 29), .int (nI 0), .ref (B + 30), .ref (B + 31), .ref (B + 32), .int (nI 0), .ref (B + 33), .ref (B + 34), .ref (B + 35), .ref (B + 36), .int (nI 0), .ref (B + 37), .null, .int (nI 0), .null, .null, .null, .int (nI 0), .null, .int (nI 0), .null, .int (nI 0), .null, .null, .null])) := f108
  have f3 : w107 27 = some (kl_aI G 4 ((fun _ => 0))) := (fr109 _ (by decide)).trans f3
  have f13 : w107 28 = some (kl_aI G 24 ((fun _ => 0))) := (fr109 _ (by decide)).trans f13
  have f23 : w107 29 = some (kl_aI G 96 ((fun _ => 0))) := (fr109 _ (by decide)).trans f23
  have f33 : w107 30 = some (kl_aI G 24 ((fun _ => 0))) := (fr109 _ (by decide)).trans f33
  have f43 : w107 31 = some (kl_aI G 96 ((fun _ => 0))) := (fr109 _ (by decide)).trans f43
  have f53 : w107 32 = some (kl_aZ G 24 ((fun _ => 0))) := (fr109 _ (by decide)).trans f53
  have f63 : w107 33 = some (kl_aI G 7 ((fun _ => 0))) := (fr109 _ (by decide)).trans f63
  have f73 : w107 34 = some (kl_aI G 7 ((fun _ => 0))) := (fr109 _ (by decide)).trans f73
  have f83 : w107 35 = some (kl_aI G 7 ((fun _ => 0))) := (fr109 _ (by decide)).trans f83
  have f93 : w107 36 = some (kl_aI G 7 ((fun _ => 0))) := (fr109 _ (by decide)).trans f93
  have f103 : w107 37 = some (kl_aI G 5 ((fun _ => 0))) := (fr109 _ (by decide)).trans f103
  have frm : ∀ j : Nat, j < 26 → w107 j = w j := fun j hj  => (fr109 j (by omega)).trans (frm j hj )
  refine lv_aload_n hx hb dX5_init_90 rfl (lv_at hl 0 rfl) ?_
  refine lv_iconst (v := nI 5) hx hb dX5_init_91 (by decide) ?_
  refine kl_newI hx hb (hts (.arrayClass .int) (by decide +kernel)) hK hP (n := 5) (by omega) (Nat.le_of_ble_eq_true rfl) (by first | exact Nat.le_of_ble_eq_true rfl | (show 0 + 4 + 24 + 96 + 24 + 96 + 24 + 7 + 7 + 7 + 7 + 5 + 5 ≤ 872; omega)) dX5_init_92 (fun a111 w112 H hq115 f113 fr114 hzw112 hP => ?_)
  have z116 : H.size = B + 27 + 12 := by omega
  obtain rfl : 38 = a111 := by omega
  have f113 : w112 38 = some (kl_aI G 5 ((fun _ => 0))) := f113
  have f108 : w112 26 = some (.inr (5, [.int (nI 0), .int (nI 0), .int (nI 0), .ref (B + 27), .int (nI 0), .ref (B + 28), .ref (B + 29), .int (nI 0), .ref (B + 30), .ref (B + 31), .ref (B + 32), .int (nI 0), .ref (B + 33), .ref (B + 34), .ref (B + 35), .ref (B + 36), .int (nI 0), .ref (B + 37), .null, .int (nI 0), .null, .null, .null, .int (nI 0), .null, .int (nI 0), .null, .int (nI 0), .null, .null, .null])) := (fr114 _ (by decide)).trans f108
  have f3 : w112 27 = some (kl_aI G 4 ((fun _ => 0))) := (fr114 _ (by decide)).trans f3
  have f13 : w112 28 = some (kl_aI G 24 ((fun _ => 0))) := (fr114 _ (by decide)).trans f13
  have f23 : w112 29 = some (kl_aI G 96 ((fun _ => 0))) := (fr114 _ (by decide)).trans f23
  have f33 : w112 30 = some (kl_aI G 24 ((fun _ => 0))) := (fr114 _ (by decide)).trans f33
  have f43 : w112 31 = some (kl_aI G 96 ((fun _ => 0))) := (fr114 _ (by decide)).trans f43
  have f53 : w112 32 = some (kl_aZ G 24 ((fun _ => 0))) := (fr114 _ (by decide)).trans f53
  have f63 : w112 33 = some (kl_aI G 7 ((fun _ => 0))) := (fr114 _ (by decide)).trans f63
  have f73 : w112 34 = some (kl_aI G 7 ((fun _ => 0))) := (fr114 _ (by decide)).trans f73
  have f83 : w112 35 = some (kl_aI G 7 ((fun _ => 0))) := (fr114 _ (by decide)).trans f83
  have f93 : w112 36 = some (kl_aI G 7 ((fun _ => 0))) := (fr114 _ (by decide)).trans f93
  have f103 : w112 37 = some (kl_aI G 5 ((fun _ => 0))) := (fr114 _ (by decide)).trans f103
  have frm : ∀ j : Nat, j < 26 → w112 j = w j := fun j hj  => (fr114 j (by omega)).trans (frm j hj )
  refine kl_putF (C := RX5) (T := TX5) (N := 31) (ci := 5) (v := .ref (B + 38)) (ty := (.array .int)) hx hb hts hinX5 tyX5 tyX5_ok nmX5 hown hK hP f108 rfl 18 (by decide) (hts (.fieldLink RX5 44 "KinLedgerModel" "singleColumn" "[I") (by decide +kernel)) (fun _ h9 => h9) rfl hin2 rfl (by decide +kernel) rfl rfl (Nat.le_of_ble_eq_true rfl) dX5_init_94 (fun w117 H locs f118 fr119 hzw117 hP => ?_)
  have z120 : H.size = B + 27 + 12 := by omega
  have f118 : w117 26 = some (.inr (5, [.int (nI 0), .int (nI 0), .int (nI 0), .ref (B + 27), .int (nI 0), .ref (B + 28), .ref (B + 29), .int (nI 0), .ref (B + 30), .ref (B + 31), .ref (B + 32), .int (nI 0), .ref (B + 33), .ref (B + 34), .ref (B + 35), .ref (B + 36), .int (nI 0), .ref (B + 37), .ref (B + 38), .int (nI 0), .null, .null, .null, .int (nI 0), .null, .int (nI 0), .null, .int (nI 0), .null, .null, .null])) := f118
  have f3 : w117 27 = some (kl_aI G 4 ((fun _ => 0))) := (fr119 _ (by decide)).trans f3
  have f13 : w117 28 = some (kl_aI G 24 ((fun _ => 0))) := (fr119 _ (by decide)).trans f13
  have f23 : w117 29 = some (kl_aI G 96 ((fun _ => 0))) := (fr119 _ (by decide)).trans f23
  have f33 : w117 30 = some (kl_aI G 24 ((fun _ => 0))) := (fr119 _ (by decide)).trans f33
  have f43 : w117 31 = some (kl_aI G 96 ((fun _ => 0))) := (fr119 _ (by decide)).trans f43
  have f53 : w117 32 = some (kl_aZ G 24 ((fun _ => 0))) := (fr119 _ (by decide)).trans f53
  have f63 : w117 33 = some (kl_aI G 7 ((fun _ => 0))) := (fr119 _ (by decide)).trans f63
  have f73 : w117 34 = some (kl_aI G 7 ((fun _ => 0))) := (fr119 _ (by decide)).trans f73
  have f83 : w117 35 = some (kl_aI G 7 ((fun _ => 0))) := (fr119 _ (by decide)).trans f83
  have f93 : w117 36 = some (kl_aI G 7 ((fun _ => 0))) := (fr119 _ (by decide)).trans f93
  have f103 : w117 37 = some (kl_aI G 5 ((fun _ => 0))) := (fr119 _ (by decide)).trans f103
  have f113 : w117 38 = some (kl_aI G 5 ((fun _ => 0))) := (fr119 _ (by decide)).trans f113
  have frm : ∀ j : Nat, j < 26 → w117 j = w j := fun j hj  => (fr119 j (by omega)).trans (frm j hj )
  refine lv_aload_n hx hb dX5_init_97 rfl (lv_at hl 0 rfl) ?_
  refine lv_iconst (v := nI 5) hx hb dX5_init_98 (by decide) ?_
  refine kl_newI hx hb (hts (.arrayClass .int) (by decide +kernel)) hK hP (n := 5) (by omega) (Nat.le_of_ble_eq_true rfl) (by first | exact Nat.le_of_ble_eq_true rfl | (show 0 + 4 + 24 + 96 + 24 + 96 + 24 + 7 + 7 + 7 + 7 + 5 + 5 + 5 ≤ 872; omega)) dX5_init_99 (fun a121 w122 H hq125 f123 fr124 hzw122 hP => ?_)
  have z126 : H.size = B + 27 + 13 := by omega
  obtain rfl : 39 = a121 := by omega
  have f123 : w122 39 = some (kl_aI G 5 ((fun _ => 0))) := f123
  have f118 : w122 26 = some (.inr (5, [.int (nI 0), .int (nI 0), .int (nI 0), .ref (B + 27), .int (nI 0), .ref (B + 28), .ref (B + 29), .int (nI 0), .ref (B + 30), .ref (B + 31), .ref (B + 32), .int (nI 0), .ref (B + 33), .ref (B + 34), .ref (B + 35), .ref (B + 36), .int (nI 0), .ref (B + 37), .ref (B + 38), .int (nI 0), .null, .null, .null, .int (nI 0), .null, .int (nI 0), .null, .int (nI 0), .null, .null, .null])) := (fr124 _ (by decide)).trans f118
  have f3 : w122 27 = some (kl_aI G 4 ((fun _ => 0))) := (fr124 _ (by decide)).trans f3
  have f13 : w122 28 = some (kl_aI G 24 ((fun _ => 0))) := (fr124 _ (by decide)).trans f13
  have f23 : w122 29 = some (kl_aI G 96 ((fun _ => 0))) := (fr124 _ (by decide)).trans f23
  have f33 : w122 30 = some (kl_aI G 24 ((fun _ => 0))) := (fr124 _ (by decide)).trans f33
  have f43 : w122 31 = some (kl_aI G 96 ((fun _ => 0))) := (fr124 _ (by decide)).trans f43
  have f53 : w122 32 = some (kl_aZ G 24 ((fun _ => 0))) := (fr124 _ (by decide)).trans f53
  have f63 : w122 33 = some (kl_aI G 7 ((fun _ => 0))) := (fr124 _ (by decide)).trans f63
  have f73 : w122 34 = some (kl_aI G 7 ((fun _ => 0))) := (fr124 _ (by decide)).trans f73
  have f83 : w122 35 = some (kl_aI G 7 ((fun _ => 0))) := (fr124 _ (by decide)).trans f83
  have f93 : w122 36 = some (kl_aI G 7 ((fun _ => 0))) := (fr124 _ (by decide)).trans f93
  have f103 : w122 37 = some (kl_aI G 5 ((fun _ => 0))) := (fr124 _ (by decide)).trans f103
  have f113 : w122 38 = some (kl_aI G 5 ((fun _ => 0))) := (fr124 _ (by decide)).trans f113
  have frm : ∀ j : Nat, j < 26 → w122 j = w j := fun j hj  => (fr124 j (by omega)).trans (frm j hj )
  refine kl_putF (C := RX5) (T := TX5) (N := 31) (ci := 5) (v := .ref (B + 39)) (ty := (.array .int)) hx hb hts hinX5 tyX5 tyX5_ok nmX5 hown hK hP f118 rfl 20 (by decide) (hts (.fieldLink RX5 47 "KinLedgerModel" "checkTable" "[I") (by decide +kernel)) (fun _ h9 => h9) rfl hin2 rfl (by decide +kernel) rfl rfl (Nat.le_of_ble_eq_true rfl) dX5_init_101 (fun w127 H locs f128 fr129 hzw127 hP => ?_)
  have z130 : H.size = B + 27 + 13 := by omega
  have f128 : w127 26 = some (.inr (5, [.int (nI 0), .int (nI 0), .int (nI 0), .ref (B + 27), .int (nI 0), .ref (B + 28), .ref (B + 29), .int (nI 0), .ref (B + 30), .ref (B + 31), .ref (B + 32), .int (nI 0), .ref (B + 33), .ref (B + 34), .ref (B + 35), .ref (B + 36), .int (nI 0), .ref (B + 37), .ref (B + 38), .int (nI 0), .ref (B + 39), .null, .null, .int (nI 0), .null, .int (nI 0), .null, .int (nI 0), .null, .null, .null])) := f128
  have f3 : w127 27 = some (kl_aI G 4 ((fun _ => 0))) := (fr129 _ (by decide)).trans f3
  have f13 : w127 28 = some (kl_aI G 24 ((fun _ => 0))) := (fr129 _ (by decide)).trans f13
  have f23 : w127 29 = some (kl_aI G 96 ((fun _ => 0))) := (fr129 _ (by decide)).trans f23
  have f33 : w127 30 = some (kl_aI G 24 ((fun _ => 0))) := (fr129 _ (by decide)).trans f33
  have f43 : w127 31 = some (kl_aI G 96 ((fun _ => 0))) := (fr129 _ (by decide)).trans f43
  have f53 : w127 32 = some (kl_aZ G 24 ((fun _ => 0))) := (fr129 _ (by decide)).trans f53
  have f63 : w127 33 = some (kl_aI G 7 ((fun _ => 0))) := (fr129 _ (by decide)).trans f63
  have f73 : w127 34 = some (kl_aI G 7 ((fun _ => 0))) := (fr129 _ (by decide)).trans f73
  have f83 : w127 35 = some (kl_aI G 7 ((fun _ => 0))) := (fr129 _ (by decide)).trans f83
  have f93 : w127 36 = some (kl_aI G 7 ((fun _ => 0))) := (fr129 _ (by decide)).trans f93
  have f103 : w127 37 = some (kl_aI G 5 ((fun _ => 0))) := (fr129 _ (by decide)).trans f103
  have f113 : w127 38 = some (kl_aI G 5 ((fun _ => 0))) := (fr129 _ (by decide)).trans f113
  have f123 : w127 39 = some (kl_aI G 5 ((fun _ => 0))) := (fr129 _ (by decide)).trans f123
  have frm : ∀ j : Nat, j < 26 → w127 j = w j := fun j hj  => (fr129 j (by omega)).trans (frm j hj )
  refine lv_aload_n hx hb dX5_init_104 rfl (lv_at hl 0 rfl) ?_
  refine lv_iconst (v := nI 5) hx hb dX5_init_105 (by decide) ?_
  refine kl_newI hx hb (hts (.arrayClass .int) (by decide +kernel)) hK hP (n := 5) (by omega) (Nat.le_of_ble_eq_true rfl) (by first | exact Nat.le_of_ble_eq_true rfl | (show 0 + 4 + 24 + 96 + 24 + 96 + 24 + 7 + 7 + 7 + 7 + 5 + 5 + 5 + 5 ≤ 872; omega)) dX5_init_106 (fun a131 w132 H hq135 f133 fr134 hzw132 hP => ?_)
  have z136 : H.size = B + 27 + 14 := by omega
  obtain rfl : 40 = a131 := by omega
  have f133 : w132 40 = some (kl_aI G 5 ((fun _ => 0))) := f133
  have f128 : w132 26 = some (.inr (5, [.int (nI 0), .int (nI 0), .int (nI 0), .ref (B + 27), .int (nI 0), .ref (B + 28), .ref (B + 29), .int (nI 0), .ref (B + 30), .ref (B + 31), .ref (B + 32), .int (nI 0), .ref (B + 33), .ref (B + 34), .ref (B + 35), .ref (B + 36), .int (nI 0), .ref (B + 37), .ref (B + 38), .int (nI 0), .ref (B + 39), .null, .null, .int (nI 0), .null, .int (nI 0), .null, .int (nI 0), .null, .null, .null])) := (fr134 _ (by decide)).trans f128
  have f3 : w132 27 = some (kl_aI G 4 ((fun _ => 0))) := (fr134 _ (by decide)).trans f3
  have f13 : w132 28 = some (kl_aI G 24 ((fun _ => 0))) := (fr134 _ (by decide)).trans f13
  have f23 : w132 29 = some (kl_aI G 96 ((fun _ => 0))) := (fr134 _ (by decide)).trans f23
  have f33 : w132 30 = some (kl_aI G 24 ((fun _ => 0))) := (fr134 _ (by decide)).trans f33
  have f43 : w132 31 = some (kl_aI G 96 ((fun _ => 0))) := (fr134 _ (by decide)).trans f43
  have f53 : w132 32 = some (kl_aZ G 24 ((fun _ => 0))) := (fr134 _ (by decide)).trans f53
  have f63 : w132 33 = some (kl_aI G 7 ((fun _ => 0))) := (fr134 _ (by decide)).trans f63
  have f73 : w132 34 = some (kl_aI G 7 ((fun _ => 0))) := (fr134 _ (by decide)).trans f73
  have f83 : w132 35 = some (kl_aI G 7 ((fun _ => 0))) := (fr134 _ (by decide)).trans f83
  have f93 : w132 36 = some (kl_aI G 7 ((fun _ => 0))) := (fr134 _ (by decide)).trans f93
  have f103 : w132 37 = some (kl_aI G 5 ((fun _ => 0))) := (fr134 _ (by decide)).trans f103
  have f113 : w132 38 = some (kl_aI G 5 ((fun _ => 0))) := (fr134 _ (by decide)).trans f113
  have f123 : w132 39 = some (kl_aI G 5 ((fun _ => 0))) := (fr134 _ (by decide)).trans f123
  have frm : ∀ j : Nat, j < 26 → w132 j = w j := fun j hj  => (fr134 j (by omega)).trans (frm j hj )
  refine kl_putF (C := RX5) (T := TX5) (N := 31) (ci := 5) (v := .ref (B + 40)) (ty := (.array .int)) hx hb hts hinX5 tyX5 tyX5_ok nmX5 hown hK hP f128 rfl 21 (by decide) (hts (.fieldLink RX5 50 "KinLedgerModel" "checkLength" "[I") (by decide +kernel)) (fun _ h9 => h9) rfl hin2 rfl (by decide +kernel) rfl rfl (Nat.le_of_ble_eq_true rfl) dX5_init_108 (fun w137 H locs f138 fr139 hzw137 hP => ?_)
  have z140 : H.size = B + 27 + 14 := by omega
  have f138 : w137 26 = some (.inr (5, [.int (nI 0), .int (nI 0), .int (nI 0), .ref (B + 27), .int (nI 0), .ref (B + 28), .ref (B + 29), .int (nI 0), .ref (B + 30), .ref (B + 31), .ref (B + 32), .int (nI 0), .ref (B + 33), .ref (B + 34), .ref (B + 35), .ref (B + 36), .int (nI 0), .ref (B + 37), .ref (B + 38), .int (nI 0), .ref (B + 39), .ref (B + 40), .null, .int (nI 0), .null, .int (nI 0), .null, .int (nI 0), .null, .null, .null])) := f138
  have f3 : w137 27 = some (kl_aI G 4 ((fun _ => 0))) := (fr139 _ (by decide)).trans f3
  have f13 : w137 28 = some (kl_aI G 24 ((fun _ => 0))) := (fr139 _ (by decide)).trans f13
  have f23 : w137 29 = some (kl_aI G 96 ((fun _ => 0))) := (fr139 _ (by decide)).trans f23
  have f33 : w137 30 = some (kl_aI G 24 ((fun _ => 0))) := (fr139 _ (by decide)).trans f33
  have f43 : w137 31 = some (kl_aI G 96 ((fun _ => 0))) := (fr139 _ (by decide)).trans f43
  have f53 : w137 32 = some (kl_aZ G 24 ((fun _ => 0))) := (fr139 _ (by decide)).trans f53
  have f63 : w137 33 = some (kl_aI G 7 ((fun _ => 0))) := (fr139 _ (by decide)).trans f63
  have f73 : w137 34 = some (kl_aI G 7 ((fun _ => 0))) := (fr139 _ (by decide)).trans f73
  have f83 : w137 35 = some (kl_aI G 7 ((fun _ => 0))) := (fr139 _ (by decide)).trans f83
  have f93 : w137 36 = some (kl_aI G 7 ((fun _ => 0))) := (fr139 _ (by decide)).trans f93
  have f103 : w137 37 = some (kl_aI G 5 ((fun _ => 0))) := (fr139 _ (by decide)).trans f103
  have f113 : w137 38 = some (kl_aI G 5 ((fun _ => 0))) := (fr139 _ (by decide)).trans f113
  have f123 : w137 39 = some (kl_aI G 5 ((fun _ => 0))) := (fr139 _ (by decide)).trans f123
  have f133 : w137 40 = some (kl_aI G 5 ((fun _ => 0))) := (fr139 _ (by decide)).trans f133
  have frm : ∀ j : Nat, j < 26 → w137 j = w j := fun j hj  => (fr139 j (by omega)).trans (frm j hj )
  refine lv_aload_n hx hb dX5_init_111 rfl (lv_at hl 0 rfl) ?_
  refine lv_bipush (v := nI 50) hx hb dX5_init_112 (by decide) ?_
  refine kl_newI hx hb (hts (.arrayClass .int) (by decide +kernel)) hK hP (n := 50) (by omega) (Nat.le_of_ble_eq_true rfl) (by first | exact Nat.le_of_ble_eq_true rfl | (show 0 + 4 + 24 + 96 + 24 + 96 + 24 + 7 + 7 + 7 + 7 + 5 + 5 + 5 + 5 + 50 ≤ 872; omega)) dX5_init_114 (fun a141 w142 H hq145 f143 fr144 hzw142 hP => ?_)
  have z146 : H.size = B + 27 + 15 := by omega
  obtain rfl : 41 = a141 := by omega
  have f143 : w142 41 = some (kl_aI G 50 ((fun _ => 0))) := f143
  have f138 : w142 26 = some (.inr (5, [.int (nI 0), .int (nI 0), .int (nI 0), .ref (B + 27), .int (nI 0), .ref (B + 28), .ref (B + 29), .int (nI 0), .ref (B + 30), .ref (B + 31), .ref (B + 32), .int (nI 0), .ref (B + 33), .ref (B + 34), .ref (B + 35), .ref (B + 36), .int (nI 0), .ref (B + 37), .ref (B + 38), .int (nI 0), .ref (B + 39), .ref (B + 40), .null, .int (nI 0), .null, .int (nI 0), .null, .int (nI 0), .null, .null, .null])) := (fr144 _ (by decide)).trans f138
  have f3 : w142 27 = some (kl_aI G 4 ((fun _ => 0))) := (fr144 _ (by decide)).trans f3
  have f13 : w142 28 = some (kl_aI G 24 ((fun _ => 0))) := (fr144 _ (by decide)).trans f13
  have f23 : w142 29 = some (kl_aI G 96 ((fun _ => 0))) := (fr144 _ (by decide)).trans f23
  have f33 : w142 30 = some (kl_aI G 24 ((fun _ => 0))) := (fr144 _ (by decide)).trans f33
  have f43 : w142 31 = some (kl_aI G 96 ((fun _ => 0))) := (fr144 _ (by decide)).trans f43
  have f53 : w142 32 = some (kl_aZ G 24 ((fun _ => 0))) := (fr144 _ (by decide)).trans f53
  have f63 : w142 33 = some (kl_aI G 7 ((fun _ => 0))) := (fr144 _ (by decide)).trans f63
  have f73 : w142 34 = some (kl_aI G 7 ((fun _ => 0))) := (fr144 _ (by decide)).trans f73
  have f83 : w142 35 = some (kl_aI G 7 ((fun _ => 0))) := (fr144 _ (by decide)).trans f83
  have f93 : w142 36 = some (kl_aI G 7 ((fun _ => 0))) := (fr144 _ (by decide)).trans f93
  have f103 : w142 37 = some (kl_aI G 5 ((fun _ => 0))) := (fr144 _ (by decide)).trans f103
  have f113 : w142 38 = some (kl_aI G 5 ((fun _ => 0))) := (fr144 _ (by decide)).trans f113
  have f123 : w142 39 = some (kl_aI G 5 ((fun _ => 0))) := (fr144 _ (by decide)).trans f123
  have f133 : w142 40 = some (kl_aI G 5 ((fun _ => 0))) := (fr144 _ (by decide)).trans f133
  have frm : ∀ j : Nat, j < 26 → w142 j = w j := fun j hj  => (fr144 j (by omega)).trans (frm j hj )
  refine kl_putF (C := RX5) (T := TX5) (N := 31) (ci := 5) (v := .ref (B + 41)) (ty := (.array .int)) hx hb hts hinX5 tyX5 tyX5_ok nmX5 hown hK hP f138 rfl 22 (by decide) (hts (.fieldLink RX5 53 "KinLedgerModel" "checkWords" "[I") (by decide +kernel)) (fun _ h9 => h9) rfl hin2 rfl (by decide +kernel) rfl rfl (Nat.le_of_ble_eq_true rfl) dX5_init_116 (fun w147 H locs f148 fr149 hzw147 hP => ?_)
  have z150 : H.size = B + 27 + 15 := by omega
  have f148 : w147 26 = some (.inr (5, [.int (nI 0), .int (nI 0), .int (nI 0), .ref (B + 27), .int (nI 0), .ref (B + 28), .ref (B + 29), .int (nI 0), .ref (B + 30), .ref (B + 31), .ref (B + 32), .int (nI 0), .ref (B + 33), .ref (B + 34), .ref (B + 35), .ref (B + 36), .int (nI 0), .ref (B + 37), .ref (B + 38), .int (nI 0), .ref (B + 39), .ref (B + 40), .ref (B + 41), .int (nI 0), .null, .int (nI 0), .null, .int (nI 0), .null, .null, .null])) := f148
  have f3 : w147 27 = some (kl_aI G 4 ((fun _ => 0))) := (fr149 _ (by decide)).trans f3
  have f13 : w147 28 = some (kl_aI G 24 ((fun _ => 0))) := (fr149 _ (by decide)).trans f13
  have f23 : w147 29 = some (kl_aI G 96 ((fun _ => 0))) := (fr149 _ (by decide)).trans f23
  have f33 : w147 30 = some (kl_aI G 24 ((fun _ => 0))) := (fr149 _ (by decide)).trans f33
  have f43 : w147 31 = some (kl_aI G 96 ((fun _ => 0))) := (fr149 _ (by decide)).trans f43
  have f53 : w147 32 = some (kl_aZ G 24 ((fun _ => 0))) := (fr149 _ (by decide)).trans f53
  have f63 : w147 33 = some (kl_aI G 7 ((fun _ => 0))) := (fr149 _ (by decide)).trans f63
  have f73 : w147 34 = some (kl_aI G 7 ((fun _ => 0))) := (fr149 _ (by decide)).trans f73
  have f83 : w147 35 = some (kl_aI G 7 ((fun _ => 0))) := (fr149 _ (by decide)).trans f83
  have f93 : w147 36 = some (kl_aI G 7 ((fun _ => 0))) := (fr149 _ (by decide)).trans f93
  have f103 : w147 37 = some (kl_aI G 5 ((fun _ => 0))) := (fr149 _ (by decide)).trans f103
  have f113 : w147 38 = some (kl_aI G 5 ((fun _ => 0))) := (fr149 _ (by decide)).trans f113
  have f123 : w147 39 = some (kl_aI G 5 ((fun _ => 0))) := (fr149 _ (by decide)).trans f123
  have f133 : w147 40 = some (kl_aI G 5 ((fun _ => 0))) := (fr149 _ (by decide)).trans f133
  have f143 : w147 41 = some (kl_aI G 50 ((fun _ => 0))) := (fr149 _ (by decide)).trans f143
  have frm : ∀ j : Nat, j < 26 → w147 j = w j := fun j hj  => (fr149 j (by omega)).trans (frm j hj )
  refine lv_aload_n hx hb dX5_init_119 rfl (lv_at hl 0 rfl) ?_
  refine lv_bipush (v := nI 10) hx hb dX5_init_120 (by decide) ?_
  refine kl_newI hx hb (hts (.arrayClass .int) (by decide +kernel)) hK hP (n := 10) (by omega) (Nat.le_of_ble_eq_true rfl) (by first | exact Nat.le_of_ble_eq_true rfl | (show 0 + 4 + 24 + 96 + 24 + 96 + 24 + 7 + 7 + 7 + 7 + 5 + 5 + 5 + 5 + 50 + 10 ≤ 872; omega)) dX5_init_122 (fun a151 w152 H hq155 f153 fr154 hzw152 hP => ?_)
  have z156 : H.size = B + 27 + 16 := by omega
  obtain rfl : 42 = a151 := by omega
  have f153 : w152 42 = some (kl_aI G 10 ((fun _ => 0))) := f153
  have f148 : w152 26 = some (.inr (5, [.int (nI 0), .int (nI 0), .int (nI 0), .ref (B + 27), .int (nI 0), .ref (B + 28), .ref (B + 29), .int (nI 0), .ref (B + 30), .ref (B + 31), .ref (B + 32), .int (nI 0), .ref (B + 33), .ref (B + 34), .ref (B + 35), .ref (B + 36), .int (nI 0), .ref (B + 37), .ref (B + 38), .int (nI 0), .ref (B + 39), .ref (B + 40), .ref (B + 41), .int (nI 0), .null, .int (nI 0), .null, .int (nI 0), .null, .null, .null])) := (fr154 _ (by decide)).trans f148
  have f3 : w152 27 = some (kl_aI G 4 ((fun _ => 0))) := (fr154 _ (by decide)).trans f3
  have f13 : w152 28 = some (kl_aI G 24 ((fun _ => 0))) := (fr154 _ (by decide)).trans f13
  have f23 : w152 29 = some (kl_aI G 96 ((fun _ => 0))) := (fr154 _ (by decide)).trans f23
  have f33 : w152 30 = some (kl_aI G 24 ((fun _ => 0))) := (fr154 _ (by decide)).trans f33
  have f43 : w152 31 = some (kl_aI G 96 ((fun _ => 0))) := (fr154 _ (by decide)).trans f43
  have f53 : w152 32 = some (kl_aZ G 24 ((fun _ => 0))) := (fr154 _ (by decide)).trans f53
  have f63 : w152 33 = some (kl_aI G 7 ((fun _ => 0))) := (fr154 _ (by decide)).trans f63
  have f73 : w152 34 = some (kl_aI G 7 ((fun _ => 0))) := (fr154 _ (by decide)).trans f73
  have f83 : w152 35 = some (kl_aI G 7 ((fun _ => 0))) := (fr154 _ (by decide)).trans f83
  have f93 : w152 36 = some (kl_aI G 7 ((fun _ => 0))) := (fr154 _ (by decide)).trans f93
  have f103 : w152 37 = some (kl_aI G 5 ((fun _ => 0))) := (fr154 _ (by decide)).trans f103
  have f113 : w152 38 = some (kl_aI G 5 ((fun _ => 0))) := (fr154 _ (by decide)).trans f113
  have f123 : w152 39 = some (kl_aI G 5 ((fun _ => 0))) := (fr154 _ (by decide)).trans f123
  have f133 : w152 40 = some (kl_aI G 5 ((fun _ => 0))) := (fr154 _ (by decide)).trans f133
  have f143 : w152 41 = some (kl_aI G 50 ((fun _ => 0))) := (fr154 _ (by decide)).trans f143
  have frm : ∀ j : Nat, j < 26 → w152 j = w j := fun j hj  => (fr154 j (by omega)).trans (frm j hj )
  refine kl_putF (C := RX5) (T := TX5) (N := 31) (ci := 5) (v := .ref (B + 42)) (ty := (.array .int)) hx hb hts hinX5 tyX5 tyX5_ok nmX5 hown hK hP f148 rfl 24 (by decide) (hts (.fieldLink RX5 56 "KinLedgerModel" "words" "[I") (by decide +kernel)) (fun _ h9 => h9) rfl hin2 rfl (by decide +kernel) rfl rfl (Nat.le_of_ble_eq_true rfl) dX5_init_124 (fun w157 H locs f158 fr159 hzw157 hP => ?_)
  have z160 : H.size = B + 27 + 16 := by omega
  have f158 : w157 26 = some (.inr (5, [.int (nI 0), .int (nI 0), .int (nI 0), .ref (B + 27), .int (nI 0), .ref (B + 28), .ref (B + 29), .int (nI 0), .ref (B + 30), .ref (B + 31), .ref (B + 32), .int (nI 0), .ref (B + 33), .ref (B + 34), .ref (B + 35), .ref (B + 36), .int (nI 0), .ref (B + 37), .ref (B + 38), .int (nI 0), .ref (B + 39), .ref (B + 40), .ref (B + 41), .int (nI 0), .ref (B + 42), .int (nI 0), .null, .int (nI 0), .null, .null, .null])) := f158
  have f3 : w157 27 = some (kl_aI G 4 ((fun _ => 0))) := (fr159 _ (by decide)).trans f3
  have f13 : w157 28 = some (kl_aI G 24 ((fun _ => 0))) := (fr159 _ (by decide)).trans f13
  have f23 : w157 29 = some (kl_aI G 96 ((fun _ => 0))) := (fr159 _ (by decide)).trans f23
  have f33 : w157 30 = some (kl_aI G 24 ((fun _ => 0))) := (fr159 _ (by decide)).trans f33
  have f43 : w157 31 = some (kl_aI G 96 ((fun _ => 0))) := (fr159 _ (by decide)).trans f43
  have f53 : w157 32 = some (kl_aZ G 24 ((fun _ => 0))) := (fr159 _ (by decide)).trans f53
  have f63 : w157 33 = some (kl_aI G 7 ((fun _ => 0))) := (fr159 _ (by decide)).trans f63
  have f73 : w157 34 = some (kl_aI G 7 ((fun _ => 0))) := (fr159 _ (by decide)).trans f73
  have f83 : w157 35 = some (kl_aI G 7 ((fun _ => 0))) := (fr159 _ (by decide)).trans f83
  have f93 : w157 36 = some (kl_aI G 7 ((fun _ => 0))) := (fr159 _ (by decide)).trans f93
  have f103 : w157 37 = some (kl_aI G 5 ((fun _ => 0))) := (fr159 _ (by decide)).trans f103
  have f113 : w157 38 = some (kl_aI G 5 ((fun _ => 0))) := (fr159 _ (by decide)).trans f113
  have f123 : w157 39 = some (kl_aI G 5 ((fun _ => 0))) := (fr159 _ (by decide)).trans f123
  have f133 : w157 40 = some (kl_aI G 5 ((fun _ => 0))) := (fr159 _ (by decide)).trans f133
  have f143 : w157 41 = some (kl_aI G 50 ((fun _ => 0))) := (fr159 _ (by decide)).trans f143
  have f153 : w157 42 = some (kl_aI G 10 ((fun _ => 0))) := (fr159 _ (by decide)).trans f153
  have frm : ∀ j : Nat, j < 26 → w157 j = w j := fun j hj  => (fr159 j (by omega)).trans (frm j hj )
  refine lv_aload_n hx hb dX5_init_127 rfl (lv_at hl 0 rfl) ?_
  refine lv_bipush (v := nI 12) hx hb dX5_init_128 (by decide) ?_
  refine kl_newI hx hb (hts (.arrayClass .int) (by decide +kernel)) hK hP (n := 12) (by omega) (Nat.le_of_ble_eq_true rfl) (by first | exact Nat.le_of_ble_eq_true rfl | (show 0 + 4 + 24 + 96 + 24 + 96 + 24 + 7 + 7 + 7 + 7 + 5 + 5 + 5 + 5 + 50 + 10 + 12 ≤ 872; omega)) dX5_init_130 (fun a161 w162 H hq165 f163 fr164 hzw162 hP => ?_)
  have z166 : H.size = B + 27 + 17 := by omega
  obtain rfl : 43 = a161 := by omega
  have f163 : w162 43 = some (kl_aI G 12 ((fun _ => 0))) := f163
  have f158 : w162 26 = some (.inr (5, [.int (nI 0), .int (nI 0), .int (nI 0), .ref (B + 27), .int (nI 0), .ref (B + 28), .ref (B + 29), .int (nI 0), .ref (B + 30), .ref (B + 31), .ref (B + 32), .int (nI 0), .ref (B + 33), .ref (B + 34), .ref (B + 35), .ref (B + 36), .int (nI 0), .ref (B + 37), .ref (B + 38), .int (nI 0), .ref (B + 39), .ref (B + 40), .ref (B + 41), .int (nI 0), .ref (B + 42), .int (nI 0), .null, .int (nI 0), .null, .null, .null])) := (fr164 _ (by decide)).trans f158
  have f3 : w162 27 = some (kl_aI G 4 ((fun _ => 0))) := (fr164 _ (by decide)).trans f3
  have f13 : w162 28 = some (kl_aI G 24 ((fun _ => 0))) := (fr164 _ (by decide)).trans f13
  have f23 : w162 29 = some (kl_aI G 96 ((fun _ => 0))) := (fr164 _ (by decide)).trans f23
  have f33 : w162 30 = some (kl_aI G 24 ((fun _ => 0))) := (fr164 _ (by decide)).trans f33
  have f43 : w162 31 = some (kl_aI G 96 ((fun _ => 0))) := (fr164 _ (by decide)).trans f43
  have f53 : w162 32 = some (kl_aZ G 24 ((fun _ => 0))) := (fr164 _ (by decide)).trans f53
  have f63 : w162 33 = some (kl_aI G 7 ((fun _ => 0))) := (fr164 _ (by decide)).trans f63
  have f73 : w162 34 = some (kl_aI G 7 ((fun _ => 0))) := (fr164 _ (by decide)).trans f73
  have f83 : w162 35 = some (kl_aI G 7 ((fun _ => 0))) := (fr164 _ (by decide)).trans f83
  have f93 : w162 36 = some (kl_aI G 7 ((fun _ => 0))) := (fr164 _ (by decide)).trans f93
  have f103 : w162 37 = some (kl_aI G 5 ((fun _ => 0))) := (fr164 _ (by decide)).trans f103
  have f113 : w162 38 = some (kl_aI G 5 ((fun _ => 0))) := (fr164 _ (by decide)).trans f113
  have f123 : w162 39 = some (kl_aI G 5 ((fun _ => 0))) := (fr164 _ (by decide)).trans f123
  have f133 : w162 40 = some (kl_aI G 5 ((fun _ => 0))) := (fr164 _ (by decide)).trans f133
  have f143 : w162 41 = some (kl_aI G 50 ((fun _ => 0))) := (fr164 _ (by decide)).trans f143
  have f153 : w162 42 = some (kl_aI G 10 ((fun _ => 0))) := (fr164 _ (by decide)).trans f153
  have frm : ∀ j : Nat, j < 26 → w162 j = w j := fun j hj  => (fr164 j (by omega)).trans (frm j hj )
  refine kl_putF (C := RX5) (T := TX5) (N := 31) (ci := 5) (v := .ref (B + 43)) (ty := (.array .int)) hx hb hts hinX5 tyX5 tyX5_ok nmX5 hown hK hP f158 rfl 26 (by decide) (hts (.fieldLink RX5 59 "KinLedgerModel" "pile" "[I") (by decide +kernel)) (fun _ h9 => h9) rfl hin2 rfl (by decide +kernel) rfl rfl (Nat.le_of_ble_eq_true rfl) dX5_init_132 (fun w167 H locs f168 fr169 hzw167 hP => ?_)
  have z170 : H.size = B + 27 + 17 := by omega
  have f168 : w167 26 = some (.inr (5, [.int (nI 0), .int (nI 0), .int (nI 0), .ref (B + 27), .int (nI 0), .ref (B + 28), .ref (B + 29), .int (nI 0), .ref (B + 30), .ref (B + 31), .ref (B + 32), .int (nI 0), .ref (B + 33), .ref (B + 34), .ref (B + 35), .ref (B + 36), .int (nI 0), .ref (B + 37), .ref (B + 38), .int (nI 0), .ref (B + 39), .ref (B + 40), .ref (B + 41), .int (nI 0), .ref (B + 42), .int (nI 0), .ref (B + 43), .int (nI 0), .null, .null, .null])) := f168
  have f3 : w167 27 = some (kl_aI G 4 ((fun _ => 0))) := (fr169 _ (by decide)).trans f3
  have f13 : w167 28 = some (kl_aI G 24 ((fun _ => 0))) := (fr169 _ (by decide)).trans f13
  have f23 : w167 29 = some (kl_aI G 96 ((fun _ => 0))) := (fr169 _ (by decide)).trans f23
  have f33 : w167 30 = some (kl_aI G 24 ((fun _ => 0))) := (fr169 _ (by decide)).trans f33
  have f43 : w167 31 = some (kl_aI G 96 ((fun _ => 0))) := (fr169 _ (by decide)).trans f43
  have f53 : w167 32 = some (kl_aZ G 24 ((fun _ => 0))) := (fr169 _ (by decide)).trans f53
  have f63 : w167 33 = some (kl_aI G 7 ((fun _ => 0))) := (fr169 _ (by decide)).trans f63
  have f73 : w167 34 = some (kl_aI G 7 ((fun _ => 0))) := (fr169 _ (by decide)).trans f73
  have f83 : w167 35 = some (kl_aI G 7 ((fun _ => 0))) := (fr169 _ (by decide)).trans f83
  have f93 : w167 36 = some (kl_aI G 7 ((fun _ => 0))) := (fr169 _ (by decide)).trans f93
  have f103 : w167 37 = some (kl_aI G 5 ((fun _ => 0))) := (fr169 _ (by decide)).trans f103
  have f113 : w167 38 = some (kl_aI G 5 ((fun _ => 0))) := (fr169 _ (by decide)).trans f113
  have f123 : w167 39 = some (kl_aI G 5 ((fun _ => 0))) := (fr169 _ (by decide)).trans f123
  have f133 : w167 40 = some (kl_aI G 5 ((fun _ => 0))) := (fr169 _ (by decide)).trans f133
  have f143 : w167 41 = some (kl_aI G 50 ((fun _ => 0))) := (fr169 _ (by decide)).trans f143
  have f153 : w167 42 = some (kl_aI G 10 ((fun _ => 0))) := (fr169 _ (by decide)).trans f153
  have f163 : w167 43 = some (kl_aI G 12 ((fun _ => 0))) := (fr169 _ (by decide)).trans f163
  have frm : ∀ j : Nat, j < 26 → w167 j = w j := fun j hj  => (fr169 j (by omega)).trans (frm j hj )
  refine lv_aload_n hx hb dX5_init_135 rfl (lv_at hl 0 rfl) ?_
  refine lv_iconst (v := nI 4) hx hb dX5_init_136 (by decide) ?_
  refine kl_newI hx hb (hts (.arrayClass .int) (by decide +kernel)) hK hP (n := 4) (by omega) (Nat.le_of_ble_eq_true rfl) (by first | exact Nat.le_of_ble_eq_true rfl | (show 0 + 4 + 24 + 96 + 24 + 96 + 24 + 7 + 7 + 7 + 7 + 5 + 5 + 5 + 5 + 50 + 10 + 12 + 4 ≤ 872; omega)) dX5_init_137 (fun a171 w172 H hq175 f173 fr174 hzw172 hP => ?_)
  have z176 : H.size = B + 27 + 18 := by omega
  obtain rfl : 44 = a171 := by omega
  have f173 : w172 44 = some (kl_aI G 4 ((fun _ => 0))) := f173
  have f168 : w172 26 = some (.inr (5, [.int (nI 0), .int (nI 0), .int (nI 0), .ref (B + 27), .int (nI 0), .ref (B + 28), .ref (B + 29), .int (nI 0), .ref (B + 30), .ref (B + 31), .ref (B + 32), .int (nI 0), .ref (B + 33), .ref (B + 34), .ref (B + 35), .ref (B + 36), .int (nI 0), .ref (B + 37), .ref (B + 38), .int (nI 0), .ref (B + 39), .ref (B + 40), .ref (B + 41), .int (nI 0), .ref (B + 42), .int (nI 0), .ref (B + 43), .int (nI 0), .null, .null, .null])) := (fr174 _ (by decide)).trans f168
  have f3 : w172 27 = some (kl_aI G 4 ((fun _ => 0))) := (fr174 _ (by decide)).trans f3
  have f13 : w172 28 = some (kl_aI G 24 ((fun _ => 0))) := (fr174 _ (by decide)).trans f13
  have f23 : w172 29 = some (kl_aI G 96 ((fun _ => 0))) := (fr174 _ (by decide)).trans f23
  have f33 : w172 30 = some (kl_aI G 24 ((fun _ => 0))) := (fr174 _ (by decide)).trans f33
  have f43 : w172 31 = some (kl_aI G 96 ((fun _ => 0))) := (fr174 _ (by decide)).trans f43
  have f53 : w172 32 = some (kl_aZ G 24 ((fun _ => 0))) := (fr174 _ (by decide)).trans f53
  have f63 : w172 33 = some (kl_aI G 7 ((fun _ => 0))) := (fr174 _ (by decide)).trans f63
  have f73 : w172 34 = some (kl_aI G 7 ((fun _ => 0))) := (fr174 _ (by decide)).trans f73
  have f83 : w172 35 = some (kl_aI G 7 ((fun _ => 0))) := (fr174 _ (by decide)).trans f83
  have f93 : w172 36 = some (kl_aI G 7 ((fun _ => 0))) := (fr174 _ (by decide)).trans f93
  have f103 : w172 37 = some (kl_aI G 5 ((fun _ => 0))) := (fr174 _ (by decide)).trans f103
  have f113 : w172 38 = some (kl_aI G 5 ((fun _ => 0))) := (fr174 _ (by decide)).trans f113
  have f123 : w172 39 = some (kl_aI G 5 ((fun _ => 0))) := (fr174 _ (by decide)).trans f123
  have f133 : w172 40 = some (kl_aI G 5 ((fun _ => 0))) := (fr174 _ (by decide)).trans f133
  have f143 : w172 41 = some (kl_aI G 50 ((fun _ => 0))) := (fr174 _ (by decide)).trans f143
  have f153 : w172 42 = some (kl_aI G 10 ((fun _ => 0))) := (fr174 _ (by decide)).trans f153
  have f163 : w172 43 = some (kl_aI G 12 ((fun _ => 0))) := (fr174 _ (by decide)).trans f163
  have frm : ∀ j : Nat, j < 26 → w172 j = w j := fun j hj  => (fr174 j (by omega)).trans (frm j hj )
  refine kl_putF (C := RX5) (T := TX5) (N := 31) (ci := 5) (v := .ref (B + 44)) (ty := (.array .int)) hx hb hts hinX5 tyX5 tyX5_ok nmX5 hown hK hP f168 rfl 28 (by decide) (hts (.fieldLink RX5 62 "KinLedgerModel" "keptRows" "[I") (by decide +kernel)) (fun _ h9 => h9) rfl hin2 rfl (by decide +kernel) rfl rfl (Nat.le_of_ble_eq_true rfl) dX5_init_139 (fun w177 H locs f178 fr179 hzw177 hP => ?_)
  have z180 : H.size = B + 27 + 18 := by omega
  have f178 : w177 26 = some (.inr (5, [.int (nI 0), .int (nI 0), .int (nI 0), .ref (B + 27), .int (nI 0), .ref (B + 28), .ref (B + 29), .int (nI 0), .ref (B + 30), .ref (B + 31), .ref (B + 32), .int (nI 0), .ref (B + 33), .ref (B + 34), .ref (B + 35), .ref (B + 36), .int (nI 0), .ref (B + 37), .ref (B + 38), .int (nI 0), .ref (B + 39), .ref (B + 40), .ref (B + 41), .int (nI 0), .ref (B + 42), .int (nI 0), .ref (B + 43), .int (nI 0), .ref (B + 44), .null, .null])) := f178
  have f3 : w177 27 = some (kl_aI G 4 ((fun _ => 0))) := (fr179 _ (by decide)).trans f3
  have f13 : w177 28 = some (kl_aI G 24 ((fun _ => 0))) := (fr179 _ (by decide)).trans f13
  have f23 : w177 29 = some (kl_aI G 96 ((fun _ => 0))) := (fr179 _ (by decide)).trans f23
  have f33 : w177 30 = some (kl_aI G 24 ((fun _ => 0))) := (fr179 _ (by decide)).trans f33
  have f43 : w177 31 = some (kl_aI G 96 ((fun _ => 0))) := (fr179 _ (by decide)).trans f43
  have f53 : w177 32 = some (kl_aZ G 24 ((fun _ => 0))) := (fr179 _ (by decide)).trans f53
  have f63 : w177 33 = some (kl_aI G 7 ((fun _ => 0))) := (fr179 _ (by decide)).trans f63
  have f73 : w177 34 = some (kl_aI G 7 ((fun _ => 0))) := (fr179 _ (by decide)).trans f73
  have f83 : w177 35 = some (kl_aI G 7 ((fun _ => 0))) := (fr179 _ (by decide)).trans f83
  have f93 : w177 36 = some (kl_aI G 7 ((fun _ => 0))) := (fr179 _ (by decide)).trans f93
  have f103 : w177 37 = some (kl_aI G 5 ((fun _ => 0))) := (fr179 _ (by decide)).trans f103
  have f113 : w177 38 = some (kl_aI G 5 ((fun _ => 0))) := (fr179 _ (by decide)).trans f113
  have f123 : w177 39 = some (kl_aI G 5 ((fun _ => 0))) := (fr179 _ (by decide)).trans f123
  have f133 : w177 40 = some (kl_aI G 5 ((fun _ => 0))) := (fr179 _ (by decide)).trans f133
  have f143 : w177 41 = some (kl_aI G 50 ((fun _ => 0))) := (fr179 _ (by decide)).trans f143
  have f153 : w177 42 = some (kl_aI G 10 ((fun _ => 0))) := (fr179 _ (by decide)).trans f153
  have f163 : w177 43 = some (kl_aI G 12 ((fun _ => 0))) := (fr179 _ (by decide)).trans f163
  have f173 : w177 44 = some (kl_aI G 4 ((fun _ => 0))) := (fr179 _ (by decide)).trans f173
  have frm : ∀ j : Nat, j < 26 → w177 j = w j := fun j hj  => (fr179 j (by omega)).trans (frm j hj )
  refine lv_aload_n hx hb dX5_init_142 rfl (lv_at hl 0 rfl) ?_
  refine lv_bipush (v := nI 96) hx hb dX5_init_143 (by decide) ?_
  refine kl_newI hx hb (hts (.arrayClass .int) (by decide +kernel)) hK hP (n := 96) (by omega) (Nat.le_of_ble_eq_true rfl) (by first | exact Nat.le_of_ble_eq_true rfl | (show 0 + 4 + 24 + 96 + 24 + 96 + 24 + 7 + 7 + 7 + 7 + 5 + 5 + 5 + 5 + 50 + 10 + 12 + 4 + 96 ≤ 872; omega)) dX5_init_145 (fun a181 w182 H hq185 f183 fr184 hzw182 hP => ?_)
  have z186 : H.size = B + 27 + 19 := by omega
  obtain rfl : 45 = a181 := by omega
  have f183 : w182 45 = some (kl_aI G 96 ((fun _ => 0))) := f183
  have f178 : w182 26 = some (.inr (5, [.int (nI 0), .int (nI 0), .int (nI 0), .ref (B + 27), .int (nI 0), .ref (B + 28), .ref (B + 29), .int (nI 0), .ref (B + 30), .ref (B + 31), .ref (B + 32), .int (nI 0), .ref (B + 33), .ref (B + 34), .ref (B + 35), .ref (B + 36), .int (nI 0), .ref (B + 37), .ref (B + 38), .int (nI 0), .ref (B + 39), .ref (B + 40), .ref (B + 41), .int (nI 0), .ref (B + 42), .int (nI 0), .ref (B + 43), .int (nI 0), .ref (B + 44), .null, .null])) := (fr184 _ (by decide)).trans f178
  have f3 : w182 27 = some (kl_aI G 4 ((fun _ => 0))) := (fr184 _ (by decide)).trans f3
  have f13 : w182 28 = some (kl_aI G 24 ((fun _ => 0))) := (fr184 _ (by decide)).trans f13
  have f23 : w182 29 = some (kl_aI G 96 ((fun _ => 0))) := (fr184 _ (by decide)).trans f23
  have f33 : w182 30 = some (kl_aI G 24 ((fun _ => 0))) := (fr184 _ (by decide)).trans f33
  have f43 : w182 31 = some (kl_aI G 96 ((fun _ => 0))) := (fr184 _ (by decide)).trans f43
  have f53 : w182 32 = some (kl_aZ G 24 ((fun _ => 0))) := (fr184 _ (by decide)).trans f53
  have f63 : w182 33 = some (kl_aI G 7 ((fun _ => 0))) := (fr184 _ (by decide)).trans f63
  have f73 : w182 34 = some (kl_aI G 7 ((fun _ => 0))) := (fr184 _ (by decide)).trans f73
  have f83 : w182 35 = some (kl_aI G 7 ((fun _ => 0))) := (fr184 _ (by decide)).trans f83
  have f93 : w182 36 = some (kl_aI G 7 ((fun _ => 0))) := (fr184 _ (by decide)).trans f93
  have f103 : w182 37 = some (kl_aI G 5 ((fun _ => 0))) := (fr184 _ (by decide)).trans f103
  have f113 : w182 38 = some (kl_aI G 5 ((fun _ => 0))) := (fr184 _ (by decide)).trans f113
  have f123 : w182 39 = some (kl_aI G 5 ((fun _ => 0))) := (fr184 _ (by decide)).trans f123
  have f133 : w182 40 = some (kl_aI G 5 ((fun _ => 0))) := (fr184 _ (by decide)).trans f133
  have f143 : w182 41 = some (kl_aI G 50 ((fun _ => 0))) := (fr184 _ (by decide)).trans f143
  have f153 : w182 42 = some (kl_aI G 10 ((fun _ => 0))) := (fr184 _ (by decide)).trans f153
  have f163 : w182 43 = some (kl_aI G 12 ((fun _ => 0))) := (fr184 _ (by decide)).trans f163
  have f173 : w182 44 = some (kl_aI G 4 ((fun _ => 0))) := (fr184 _ (by decide)).trans f173
  have frm : ∀ j : Nat, j < 26 → w182 j = w j := fun j hj  => (fr184 j (by omega)).trans (frm j hj )
  refine kl_putF (C := RX5) (T := TX5) (N := 31) (ci := 5) (v := .ref (B + 45)) (ty := (.array .int)) hx hb hts hinX5 tyX5 tyX5_ok nmX5 hown hK hP f178 rfl 29 (by decide) (hts (.fieldLink RX5 65 "KinLedgerModel" "keptOf" "[I") (by decide +kernel)) (fun _ h9 => h9) rfl hin2 rfl (by decide +kernel) rfl rfl (Nat.le_of_ble_eq_true rfl) dX5_init_147 (fun w187 H locs f188 fr189 hzw187 hP => ?_)
  have z190 : H.size = B + 27 + 19 := by omega
  have f188 : w187 26 = some (.inr (5, [.int (nI 0), .int (nI 0), .int (nI 0), .ref (B + 27), .int (nI 0), .ref (B + 28), .ref (B + 29), .int (nI 0), .ref (B + 30), .ref (B + 31), .ref (B + 32), .int (nI 0), .ref (B + 33), .ref (B + 34), .ref (B + 35), .ref (B + 36), .int (nI 0), .ref (B + 37), .ref (B + 38), .int (nI 0), .ref (B + 39), .ref (B + 40), .ref (B + 41), .int (nI 0), .ref (B + 42), .int (nI 0), .ref (B + 43), .int (nI 0), .ref (B + 44), .ref (B + 45), .null])) := f188
  have f3 : w187 27 = some (kl_aI G 4 ((fun _ => 0))) := (fr189 _ (by decide)).trans f3
  have f13 : w187 28 = some (kl_aI G 24 ((fun _ => 0))) := (fr189 _ (by decide)).trans f13
  have f23 : w187 29 = some (kl_aI G 96 ((fun _ => 0))) := (fr189 _ (by decide)).trans f23
  have f33 : w187 30 = some (kl_aI G 24 ((fun _ => 0))) := (fr189 _ (by decide)).trans f33
  have f43 : w187 31 = some (kl_aI G 96 ((fun _ => 0))) := (fr189 _ (by decide)).trans f43
  have f53 : w187 32 = some (kl_aZ G 24 ((fun _ => 0))) := (fr189 _ (by decide)).trans f53
  have f63 : w187 33 = some (kl_aI G 7 ((fun _ => 0))) := (fr189 _ (by decide)).trans f63
  have f73 : w187 34 = some (kl_aI G 7 ((fun _ => 0))) := (fr189 _ (by decide)).trans f73
  have f83 : w187 35 = some (kl_aI G 7 ((fun _ => 0))) := (fr189 _ (by decide)).trans f83
  have f93 : w187 36 = some (kl_aI G 7 ((fun _ => 0))) := (fr189 _ (by decide)).trans f93
  have f103 : w187 37 = some (kl_aI G 5 ((fun _ => 0))) := (fr189 _ (by decide)).trans f103
  have f113 : w187 38 = some (kl_aI G 5 ((fun _ => 0))) := (fr189 _ (by decide)).trans f113
  have f123 : w187 39 = some (kl_aI G 5 ((fun _ => 0))) := (fr189 _ (by decide)).trans f123
  have f133 : w187 40 = some (kl_aI G 5 ((fun _ => 0))) := (fr189 _ (by decide)).trans f133
  have f143 : w187 41 = some (kl_aI G 50 ((fun _ => 0))) := (fr189 _ (by decide)).trans f143
  have f153 : w187 42 = some (kl_aI G 10 ((fun _ => 0))) := (fr189 _ (by decide)).trans f153
  have f163 : w187 43 = some (kl_aI G 12 ((fun _ => 0))) := (fr189 _ (by decide)).trans f163
  have f173 : w187 44 = some (kl_aI G 4 ((fun _ => 0))) := (fr189 _ (by decide)).trans f173
  have f183 : w187 45 = some (kl_aI G 96 ((fun _ => 0))) := (fr189 _ (by decide)).trans f183
  have frm : ∀ j : Nat, j < 26 → w187 j = w j := fun j hj  => (fr189 j (by omega)).trans (frm j hj )
  refine lv_aload_n hx hb dX5_init_150 rfl (lv_at hl 0 rfl) ?_
  refine lv_sipush (v := nI 384) hx hb dX5_init_151 (by decide) ?_
  refine kl_newI hx hb (hts (.arrayClass .int) (by decide +kernel)) hK hP (n := 384) (by omega) (Nat.le_of_ble_eq_true rfl) (by first | exact Nat.le_of_ble_eq_true rfl | (show 0 + 4 + 24 + 96 + 24 + 96 + 24 + 7 + 7 + 7 + 7 + 5 + 5 + 5 + 5 + 50 + 10 + 12 + 4 + 96 + 384 ≤ 872; omega)) dX5_init_154 (fun a191 w192 H hq195 f193 fr194 hzw192 hP => ?_)
  have z196 : H.size = B + 27 + 20 := by omega
  obtain rfl : 46 = a191 := by omega
  have f193 : w192 46 = some (kl_aI G 384 ((fun _ => 0))) := f193
  have f188 : w192 26 = some (.inr (5, [.int (nI 0), .int (nI 0), .int (nI 0), .ref (B + 27), .int (nI 0), .ref (B + 28), .ref (B + 29), .int (nI 0), .ref (B + 30), .ref (B + 31), .ref (B + 32), .int (nI 0), .ref (B + 33), .ref (B + 34), .ref (B + 35), .ref (B + 36), .int (nI 0), .ref (B + 37), .ref (B + 38), .int (nI 0), .ref (B + 39), .ref (B + 40), .ref (B + 41), .int (nI 0), .ref (B + 42), .int (nI 0), .ref (B + 43), .int (nI 0), .ref (B + 44), .ref (B + 45), .null])) := (fr194 _ (by decide)).trans f188
  have f3 : w192 27 = some (kl_aI G 4 ((fun _ => 0))) := (fr194 _ (by decide)).trans f3
  have f13 : w192 28 = some (kl_aI G 24 ((fun _ => 0))) := (fr194 _ (by decide)).trans f13
  have f23 : w192 29 = some (kl_aI G 96 ((fun _ => 0))) := (fr194 _ (by decide)).trans f23
  have f33 : w192 30 = some (kl_aI G 24 ((fun _ => 0))) := (fr194 _ (by decide)).trans f33
  have f43 : w192 31 = some (kl_aI G 96 ((fun _ => 0))) := (fr194 _ (by decide)).trans f43
  have f53 : w192 32 = some (kl_aZ G 24 ((fun _ => 0))) := (fr194 _ (by decide)).trans f53
  have f63 : w192 33 = some (kl_aI G 7 ((fun _ => 0))) := (fr194 _ (by decide)).trans f63
  have f73 : w192 34 = some (kl_aI G 7 ((fun _ => 0))) := (fr194 _ (by decide)).trans f73
  have f83 : w192 35 = some (kl_aI G 7 ((fun _ => 0))) := (fr194 _ (by decide)).trans f83
  have f93 : w192 36 = some (kl_aI G 7 ((fun _ => 0))) := (fr194 _ (by decide)).trans f93
  have f103 : w192 37 = some (kl_aI G 5 ((fun _ => 0))) := (fr194 _ (by decide)).trans f103
  have f113 : w192 38 = some (kl_aI G 5 ((fun _ => 0))) := (fr194 _ (by decide)).trans f113
  have f123 : w192 39 = some (kl_aI G 5 ((fun _ => 0))) := (fr194 _ (by decide)).trans f123
  have f133 : w192 40 = some (kl_aI G 5 ((fun _ => 0))) := (fr194 _ (by decide)).trans f133
  have f143 : w192 41 = some (kl_aI G 50 ((fun _ => 0))) := (fr194 _ (by decide)).trans f143
  have f153 : w192 42 = some (kl_aI G 10 ((fun _ => 0))) := (fr194 _ (by decide)).trans f153
  have f163 : w192 43 = some (kl_aI G 12 ((fun _ => 0))) := (fr194 _ (by decide)).trans f163
  have f173 : w192 44 = some (kl_aI G 4 ((fun _ => 0))) := (fr194 _ (by decide)).trans f173
  have f183 : w192 45 = some (kl_aI G 96 ((fun _ => 0))) := (fr194 _ (by decide)).trans f183
  have frm : ∀ j : Nat, j < 26 → w192 j = w j := fun j hj  => (fr194 j (by omega)).trans (frm j hj )
  refine kl_putF (C := RX5) (T := TX5) (N := 31) (ci := 5) (v := .ref (B + 46)) (ty := (.array .int)) hx hb hts hinX5 tyX5 tyX5_ok nmX5 hown hK hP f188 rfl 30 (by decide) (hts (.fieldLink RX5 68 "KinLedgerModel" "keptCells" "[I") (by decide +kernel)) (fun _ h9 => h9) rfl hin2 rfl (by decide +kernel) rfl rfl (Nat.le_of_ble_eq_true rfl) dX5_init_156 (fun w197 H locs f198 fr199 hzw197 hP => ?_)
  have z200 : H.size = B + 27 + 20 := by omega
  have f198 : w197 26 = some (.inr (5, [.int (nI 0), .int (nI 0), .int (nI 0), .ref (B + 27), .int (nI 0), .ref (B + 28), .ref (B + 29), .int (nI 0), .ref (B + 30), .ref (B + 31), .ref (B + 32), .int (nI 0), .ref (B + 33), .ref (B + 34), .ref (B + 35), .ref (B + 36), .int (nI 0), .ref (B + 37), .ref (B + 38), .int (nI 0), .ref (B + 39), .ref (B + 40), .ref (B + 41), .int (nI 0), .ref (B + 42), .int (nI 0), .ref (B + 43), .int (nI 0), .ref (B + 44), .ref (B + 45), .ref (B + 46)])) := f198
  have f3 : w197 27 = some (kl_aI G 4 ((fun _ => 0))) := (fr199 _ (by decide)).trans f3
  have f13 : w197 28 = some (kl_aI G 24 ((fun _ => 0))) := (fr199 _ (by decide)).trans f13
  have f23 : w197 29 = some (kl_aI G 96 ((fun _ => 0))) := (fr199 _ (by decide)).trans f23
  have f33 : w197 30 = some (kl_aI G 24 ((fun _ => 0))) := (fr199 _ (by decide)).trans f33
  have f43 : w197 31 = some (kl_aI G 96 ((fun _ => 0))) := (fr199 _ (by decide)).trans f43
  have f53 : w197 32 = some (kl_aZ G 24 ((fun _ => 0))) := (fr199 _ (by decide)).trans f53
  have f63 : w197 33 = some (kl_aI G 7 ((fun _ => 0))) := (fr199 _ (by decide)).trans f63
  have f73 : w197 34 = some (kl_aI G 7 ((fun _ => 0))) := (fr199 _ (by decide)).trans f73
  have f83 : w197 35 = some (kl_aI G 7 ((fun _ => 0))) := (fr199 _ (by decide)).trans f83
  have f93 : w197 36 = some (kl_aI G 7 ((fun _ => 0))) := (fr199 _ (by decide)).trans f93
  have f103 : w197 37 = some (kl_aI G 5 ((fun _ => 0))) := (fr199 _ (by decide)).trans f103
  have f113 : w197 38 = some (kl_aI G 5 ((fun _ => 0))) := (fr199 _ (by decide)).trans f113
  have f123 : w197 39 = some (kl_aI G 5 ((fun _ => 0))) := (fr199 _ (by decide)).trans f123
  have f133 : w197 40 = some (kl_aI G 5 ((fun _ => 0))) := (fr199 _ (by decide)).trans f133
  have f143 : w197 41 = some (kl_aI G 50 ((fun _ => 0))) := (fr199 _ (by decide)).trans f143
  have f153 : w197 42 = some (kl_aI G 10 ((fun _ => 0))) := (fr199 _ (by decide)).trans f153
  have f163 : w197 43 = some (kl_aI G 12 ((fun _ => 0))) := (fr199 _ (by decide)).trans f163
  have f173 : w197 44 = some (kl_aI G 4 ((fun _ => 0))) := (fr199 _ (by decide)).trans f173
  have f183 : w197 45 = some (kl_aI G 96 ((fun _ => 0))) := (fr199 _ (by decide)).trans f183
  have f193 : w197 46 = some (kl_aI G 384 ((fun _ => 0))) := (fr199 _ (by decide)).trans f193
  have frm : ∀ j : Nat, j < 26 → w197 j = w j := fun j hj  => (fr199 j (by omega)).trans (frm j hj )
  refine W.widen (k := 20) (n := 872) (by omega) (by omega) ?_
  exact kl_vretz hx hb hr hlocks hP ⟨⟨f198, by have h9 := f3; rw [kl_zf] at h9; exact h9, f13, f23, f33, f43, f53, f63, by have h9 := f73; rw [kl_zf] at h9; exact h9, f83, f93, f103, by have h9 := f113; rw [kl_zf] at h9; exact h9, f123, by have h9 := f133; rw [kl_zf] at h9; exact h9, by have h9 := f143; rw [kl_zf] at h9; exact h9, by have h9 := f153; rw [kl_zf] at h9; exact h9, f163, by have h9 := f173; rw [kl_zf] at h9; exact h9, f183, f193⟩, frm⟩ (by omega) dX5_init_159

abbrev rm_X5_insert : Room := { frames := 5, cells := 0, slots := 0, locals := 113 }
set_option maxHeartbeats 4000000 in
set_option maxRecDepth 100000 in
theorem c_X5_insert (l : Launch) (G : kl_G) (B : Nat) (w : kl_M) {nT nL nS nC nW nM n on : Nat} {ec rs hi : Int32} {cn : Nat → Nat} {O D oO oD gn pl : Nat → Int32} {lch : Nat → Int32} {lco : Nat → Nat} {lpa lwy stb : Nat → Int32} {sco : Nat → Nat} {ctb : Nat → Int32} {cln cw : Nat → Nat} (ccol : Nat → Nat) (t a b c d : Int32) (q26 : w 26 = some (.inr (5, [.int ec, .int rs, .int (nI nT), .ref (B + 27), .int (nI n), .ref (B + 28), .ref (B + 29), .int (nI on), .ref (B + 30), .ref (B + 31), .ref (B + 32), .int (nI nL), .ref (B + 33), .ref (B + 34), .ref (B + 35), .ref (B + 36), .int (nI nS), .ref (B + 37), .ref (B + 38), .int (nI nC), .ref (B + 39), .ref (B + 40), .ref (B + 41), .int (nI nW), .ref (B + 42), .int hi, .ref (B + 43), .int (nI nM), .ref (B + 44), .ref (B + 45), .ref (B + 46)]))) (q27 : w 27 = some (kl_aI G 4 ((fun t => nI (cn t))))) (q28 : w 28 = some (kl_aI G 24 O)) (q29 : w 29 = some (kl_aI G 96 D)) (q30 : w 30 = some (kl_aI G 24 oO)) (q31 : w 31 = some (kl_aI G 96 oD)) (q32 : w 32 = some (kl_aZ G 24 gn)) (q33 : w 33 = some (kl_aI G 7 lch)) (q34 : w 34 = some (kl_aI G 7 ((fun t => nI (lco t))))) (q35 : w 35 = some (kl_aI G 7 lpa)) (q36 : w 36 = some (kl_aI G 7 lwy)) (q37 : w 37 = some (kl_aI G 5 stb)) (q38 : w 38 = some (kl_aI G 5 ((fun t => nI (sco t))))) (q39 : w 39 = some (kl_aI G 5 ctb)) (q40 : w 40 = some (kl_aI G 5 ((fun t => nI (cln t))))) (q41 : w 41 = some (kl_aI G 50 ((fun t => nI (cw t))))) (q43 : w 43 = some (kl_aI G 12 pl)) (hmn : nT ≤ 4 ∧ nL ≤ 6 ∧ nS ≤ 4 ∧ nC ≤ 4 ∧ n ≤ 24) (hrp : (md_RP nL lch lco lpa lwy nS stb sco nC ctb cln cw ccol)) (hcn4 : ∀ j, j < nT → cn j ≤ 4) : Met l yX5_insert wsX5_insert rm_X5_insert (kl_Pc G B w [.ref (B + 26), .int t, .int a, .int b, .int c, .int d]) (kl_Qv G B (fun w1 => (¬ (mt_tab t nT ∧ a ≠ 0) ∧ w1 26 = some (.inr (5, [.int (nI 1), .int rs, .int (nI nT), .ref (B + 27), .int (nI n), .ref (B + 28), .ref (B + 29), .int (nI on), .ref (B + 30), .ref (B + 31), .ref (B + 32), .int (nI nL), .ref (B + 33), .ref (B + 34), .ref (B + 35), .ref (B + 36), .int (nI nS), .ref (B + 37), .ref (B + 38), .int (nI nC), .ref (B + 39), .ref (B + 40), .ref (B + 41), .int (nI nW), .ref (B + 42), .int hi, .ref (B + 43), .int (nI nM), .ref (B + 44), .ref (B + 45), .ref (B + 46)])) ∧ md_sm G w1 n O D ∧ ∀ j : Nat, j ≠ 26 → j ≠ 28 → j ≠ 29 → j ≠ 30 → j ≠ 31 → j ≠ 32 → j ≠ 43 → w1 j = w j) ∨ ((mt_tab t nT ∧ a ≠ 0) ∧ ¬ n < 24 ∧ w1 26 = some (.inr (5, [.int (nI 2), .int rs, .int (nI nT), .ref (B + 27), .int (nI n), .ref (B + 28), .ref (B + 29), .int (nI on), .ref (B + 30), .ref (B + 31), .ref (B + 32), .int (nI nL), .ref (B + 33), .ref (B + 34), .ref (B + 35), .ref (B + 36), .int (nI nS), .ref (B + 37), .ref (B + 38), .int (nI nC), .ref (B + 39), .ref (B + 40), .ref (B + 41), .int (nI nW), .ref (B + 42), .int hi, .ref (B + 43), .int (nI nM), .ref (B + 44), .ref (B + 45), .ref (B + 46)])) ∧ md_sm G w1 n O D ∧ ∀ j : Nat, j ≠ 26 → j ≠ 28 → j ≠ 29 → j ≠ 30 → j ≠ 31 → j ≠ 32 → j ≠ 43 → w1 j = w j) ∨ ((mt_tab t nT ∧ a ≠ 0) ∧ n < 24 ∧ ∃ tj, tj < nT ∧ t = nI tj ∧ md_sw 0 (mt_why (md_T (n + 1) (upd O n t)) (md_ins D n (cn tj) a b c d) nT nS stb sco nL lch lco lpa nC ctb (fun j i => cw (10 * j + i)) cln) (nI 0) ∧ (∃ h2 on2, w1 26 = some (.inr (5, [.int (nI 0), .int rs, .int (nI nT), .ref (B + 27), .int (nI (n + 1)), .ref (B + 28), .ref (B + 29), .int (nI on2), .ref (B + 30), .ref (B + 31), .ref (B + 32), .int (nI nL), .ref (B + 33), .ref (B + 34), .ref (B + 35), .ref (B + 36), .int (nI nS), .ref (B + 37), .ref (B + 38), .int (nI nC), .ref (B + 39), .ref (B + 40), .ref (B + 41), .int (nI nW), .ref (B + 42), .int h2, .ref (B + 43), .int (nI nM), .ref (B + 44), .ref (B + 45), .ref (B + 46)]))) ∧ w1 28 = some (kl_aI G 24 (upd O n t)) ∧ w1 29 = some (kl_aI G 96 (md_ins D n (cn tj) a b c d)) ∧ md_jk G w1 ∧ ∀ j : Nat, j ≠ 26 → j ≠ 28 → j ≠ 29 → j ≠ 30 → j ≠ 31 → j ≠ 32 → j ≠ 43 → w1 j = w j) ∨ ((mt_tab t nT ∧ a ≠ 0) ∧ n < 24 ∧ ∃ tj, tj < nT ∧ t = nI tj ∧ ∃ y2, y2 ≠ 0 ∧ md_sw 0 (mt_why (md_T (n + 1) (upd O n t)) (md_ins D n (cn tj) a b c d) nT nS stb sco nL lch lco lpa nC ctb (fun j i => cw (10 * j + i)) cln) y2 ∧ (∃ h2 on2, w1 26 = some (.inr (5, [.int (nI 3), .int y2, .int (nI nT), .ref (B + 27), .int (nI n), .ref (B + 28), .ref (B + 29), .int (nI on2), .ref (B + 30), .ref (B + 31), .ref (B + 32), .int (nI nL), .ref (B + 33), .ref (B + 34), .ref (B + 35), .ref (B + 36), .int (nI nS), .ref (B + 37), .ref (B + 38), .int (nI nC), .ref (B + 39), .ref (B + 40), .ref (B + 41), .int (nI nW), .ref (B + 42), .int h2, .ref (B + 43), .int (nI nM), .ref (B + 44), .ref (B + 45), .ref (B + 46)]))) ∧ md_sm G w1 n O D ∧ ∀ j : Nat, j ≠ 26 → j ≠ 28 → j ≠ 29 → j ≠ 30 → j ≠ 31 → j ≠ 32 → j ≠ 43 → w1 j = w j))) 0 0 (kl_fr B) := by
  refine Met.ofW (cc := cX5_insert) (maxL := 6) (ret := none) (by decide) rfl ?_
  intro pg e s m args below meth cd s₁ Bd hml hv
  obtain ⟨rfl, hP0, hK⟩ := hv
  have hx := Bd.exec
  have hb := Bd.bytes
  have hr := Bd.returns
  have hts := atoms_spec (ws := wsX5_insert) Bd.pre
  have hown : s.vm.findClass RX5 = some m.cls := findClass_of_methodNamed Bd.named
  have hlocks := Bd.notSynchronized
  have hinX5 : ∀ w ∈ u_ws RX5 TX5 31, w ∈ wsX5_insert := by decide +kernel
  have hP := kl_S.rf hP0
  have hl := lv_entry ([.ref (B + 26), .int t, .int a, .int b, .int c, .int d]) (n := 6) (Nat.le_of_ble_eq_true rfl)
  rw [lg_entry_eq]
  generalize (lg_sl ([.ref (B + 26), .int t, .int a, .int b, .int c, .int d]) ++ List.replicate (6 - (lg_sl ([.ref (B + 26), .int t, .int a, .int b, .int c, .int d])).length) Slot.unset).toArray = ls at hl ⊢
  have hl : lv_has ls 6 [(0, .ref (B + 26)), (1, .int t), (2, .int a), (3, .int b), (4, .int c), (5, .int d)] := hl
  have frm : ∀ j : Nat, j ≠ 26 → j ≠ 28 → j ≠ 29 → j ≠ 30 → j ≠ 31 → j ≠ 32 → j ≠ 43 → w j = w j := fun j _ _ _ _ _ _ _ => rfl
  obtain ⟨m1, m2, m3, m4, m5⟩ := hmn
  have hrl := md_RP.hrl hrp
  refine lv_aload_n hx hb dX5_insert_0 rfl (lv_at hl 0 rfl) ?_
  refine lv_aload_n hx hb dX5_insert_1 rfl (lv_at hl 0 rfl) ?_
  refine lv_iload_n hx hb dX5_insert_2 rfl (lv_at hl 1 rfl) ?_
  refine kl_cVi (C := RX5) (i := 26) (As := [.int t]) (rest := [.ref (B + 26)]) ⟨hx, hb, hml, hown, hts⟩ (c_X5_isTable l G B _ t q26 (by omega)) (cwV 1 hts gX5_insert_X5_isTable rfl rfl rfl (by decide +kernel) ⟨Nat.le_of_ble_eq_true rfl, Nat.le_of_ble_eq_true rfl⟩) hK hP q26 rfl rfl hl.1 rfl (Nat.le_of_ble_eq_true rfl) dX5_insert_3 ⟨Nat.le_of_ble_eq_true rfl, Nat.le_of_ble_eq_true rfl⟩ (fun r3 w1 H locs q2 hP => ?_)
  obtain ⟨rfl, hv4⟩ := q2
  refine kl_ifeq (tgt := 13) hx hb hv4 dX5_insert_6 (by decide) (fun c6 => ?_) (fun c6 => ?_)
  · refine lv_iconst (v := nI 1) hx hb dX5_insert_13 (by decide) ?_
    refine lv_goto (tgt := 31) hx hb dX5_insert_14 (by decide) ?_
    refine kl_put (C := RX5) (T := TX5) (N := 31) (ci := 5) (v := .int (nI 1)) (ty := .int) hx hb hts hinX5 tyX5 tyX5_ok nmX5 hown hK hP q26 rfl 0 (by decide) (hts (.fieldLink RX5 71 "KinLedgerModel" "code" "I") (by decide +kernel)) (fun _ h9 => h9) rfl (by decide +kernel) rfl rfl (Nat.le_of_ble_eq_true rfl) dX5_insert_31 (fun w5 H locs f6 fr7 hzw5 hP => ?_)
    have f6 : w5 26 = some (.inr (5, [.int (nI 1), .int rs, .int (nI nT), .ref (B + 27), .int (nI n), .ref (B + 28), .ref (B + 29), .int (nI on), .ref (B + 30), .ref (B + 31), .ref (B + 32), .int (nI nL), .ref (B + 33), .ref (B + 34), .ref (B + 35), .ref (B + 36), .int (nI nS), .ref (B + 37), .ref (B + 38), .int (nI nC), .ref (B + 39), .ref (B + 40), .ref (B + 41), .int (nI nW), .ref (B + 42), .int hi, .ref (B + 43), .int (nI nM), .ref (B + 44), .ref (B + 45), .ref (B + 46)])) := f6
    have q27 : w5 27 = some (kl_aI G 4 ((fun t => nI (cn t)))) := (fr7 _ (by decide)).trans q27
    have q28 : w5 28 = some (kl_aI G 24 O) := (fr7 _ (by decide)).trans q28
    have q29 : w5 29 = some (kl_aI G 96 D) := (fr7 _ (by decide)).trans q29
    have q30 : w5 30 = some (kl_aI G 24 oO) := (fr7 _ (by decide)).trans q30
    have q31 : w5 31 = some (kl_aI G 96 oD) := (fr7 _ (by decide)).trans q31
    have q32 : w5 32 = some (kl_aZ G 24 gn) := (fr7 _ (by decide)).trans q32
    have q33 : w5 33 = some (kl_aI G 7 lch) := (fr7 _ (by decide)).trans q33
    have q34 : w5 34 = some (kl_aI G 7 ((fun t => nI (lco t)))) := (fr7 _ (by decide)).trans q34
    have q35 : w5 35 = some (kl_aI G 7 lpa) := (fr7 _ (by decide)).trans q35
    have q36 : w5 36 = some (kl_aI G 7 lwy) := (fr7 _ (by decide)).trans q36
    have q37 : w5 37 = some (kl_aI G 5 stb) := (fr7 _ (by decide)).trans q37
    have q38 : w5 38 = some (kl_aI G 5 ((fun t => nI (sco t)))) := (fr7 _ (by decide)).trans q38
    have q39 : w5 39 = some (kl_aI G 5 ctb) := (fr7 _ (by decide)).trans q39
    have q40 : w5 40 = some (kl_aI G 5 ((fun t => nI (cln t)))) := (fr7 _ (by decide)).trans q40
    have q41 : w5 41 = some (kl_aI G 50 ((fun t => nI (cw t)))) := (fr7 _ (by decide)).trans q41
    have q43 : w5 43 = some (kl_aI G 12 pl) := (fr7 _ (by decide)).trans q43
    have frm : ∀ j : Nat, j ≠ 26 → j ≠ 28 → j ≠ 29 → j ≠ 30 → j ≠ 31 → j ≠ 32 → j ≠ 43 → w5 j = w j := fun j k0 k1 k2 k3 k4 k5 k6 => (fr7 j k0).trans (frm j k0 k1 k2 k3 k4 k5 k6)
    refine lv_aload_n hx hb dX5_insert_34 rfl (lv_at hl 0 rfl) ?_
    refine kl_get (C := RX5) (T := TX5) (N := 31) (ci := 5) hx hb hts hinX5 hown hK hP f6 rfl 0 (by decide) (hts (.fieldLink RX5 71 "KinLedgerModel" "code" "I") (by decide +kernel)) (fun _ h9 => h9) rfl dX5_insert_35 ?_
    refine kl_z_le (tgt := 42) hx hb (by omega) dX5_insert_38 (by decide) (fun c38 => absurd c38 (by omega)) (fun c38 => ?_)
    exact kl_vret hx hb hr hlocks hP (Or.inl (⟨fun z => c6 z.1, f6, ⟨⟨_, _, q28, q29, fun _ _ => rfl, fun _ _ => rfl⟩, ⟨_, _, _, _, q30, q31, q32, q43⟩⟩, frm⟩)) dX5_insert_41
  · refine lv_iload_n hx hb dX5_insert_9 rfl (lv_at hl 2 rfl) ?_
    refine lv_if_ne (tgt := 17) hx hb dX5_insert_10 (by decide) (fun c10 => ?_) (fun c10 => ?_)
    · refine lv_aload_n hx hb dX5_insert_17 rfl (lv_at hl 0 rfl) ?_
      refine kl_get (C := RX5) (T := TX5) (N := 31) (ci := 5) hx hb hts hinX5 hown hK hP q26 rfl 4 (by decide) (hts (.fieldLink RX5 82 "KinLedgerModel" "rows" "I") (by decide +kernel)) (fun _ h9 => h9) rfl dX5_insert_18 ?_
      refine lv_bipush (v := nI 24) hx hb dX5_insert_21 (by decide) ?_
      refine kl_ne (tgt := 30) hx hb (by omega) (by omega) dX5_insert_23 (by decide) (fun c23 => ?_) (fun c23 => ?_)
      · refine lv_iconst (v := nI 0) hx hb dX5_insert_30 (by decide) ?_
        refine kl_put (C := RX5) (T := TX5) (N := 31) (ci := 5) (v := .int (nI 0)) (ty := .int) hx hb hts hinX5 tyX5 tyX5_ok nmX5 hown hK hP q26 rfl 0 (by decide) (hts (.fieldLink RX5 71 "KinLedgerModel" "code" "I") (by decide +kernel)) (fun _ h9 => h9) rfl (by decide +kernel) rfl rfl (Nat.le_of_ble_eq_true rfl) dX5_insert_31 (fun w8 H locs f9 fr10 hzw8 hP => ?_)
        have f9 : w8 26 = some (.inr (5, [.int (nI 0), .int rs, .int (nI nT), .ref (B + 27), .int (nI n), .ref (B + 28), .ref (B + 29), .int (nI on), .ref (B + 30), .ref (B + 31), .ref (B + 32), .int (nI nL), .ref (B + 33), .ref (B + 34), .ref (B + 35), .ref (B + 36), .int (nI nS), .ref (B + 37), .ref (B + 38), .int (nI nC), .ref (B + 39), .ref (B + 40), .ref (B + 41), .int (nI nW), .ref (B + 42), .int hi, .ref (B + 43), .int (nI nM), .ref (B + 44), .ref (B + 45), .ref (B + 46)])) := f9
        have q27 : w8 27 = some (kl_aI G 4 ((fun t => nI (cn t)))) := (fr10 _ (by decide)).trans q27
        have q28 : w8 28 = some (kl_aI G 24 O) := (fr10 _ (by decide)).trans q28
        have q29 : w8 29 = some (kl_aI G 96 D) := (fr10 _ (by decide)).trans q29
        have q30 : w8 30 = some (kl_aI G 24 oO) := (fr10 _ (by decide)).trans q30
        have q31 : w8 31 = some (kl_aI G 96 oD) := (fr10 _ (by decide)).trans q31
        have q32 : w8 32 = some (kl_aZ G 24 gn) := (fr10 _ (by decide)).trans q32
        have q33 : w8 33 = some (kl_aI G 7 lch) := (fr10 _ (by decide)).trans q33
        have q34 : w8 34 = some (kl_aI G 7 ((fun t => nI (lco t)))) := (fr10 _ (by decide)).trans q34
        have q35 : w8 35 = some (kl_aI G 7 lpa) := (fr10 _ (by decide)).trans q35
        have q36 : w8 36 = some (kl_aI G 7 lwy) := (fr10 _ (by decide)).trans q36
        have q37 : w8 37 = some (kl_aI G 5 stb) := (fr10 _ (by decide)).trans q37
        have q38 : w8 38 = some (kl_aI G 5 ((fun t => nI (sco t)))) := (fr10 _ (by decide)).trans q38
        have q39 : w8 39 = some (kl_aI G 5 ctb) := (fr10 _ (by decide)).trans q39
        have q40 : w8 40 = some (kl_aI G 5 ((fun t => nI (cln t)))) := (fr10 _ (by decide)).trans q40
        have q41 : w8 41 = some (kl_aI G 50 ((fun t => nI (cw t)))) := (fr10 _ (by decide)).trans q41
        have q43 : w8 43 = some (kl_aI G 12 pl) := (fr10 _ (by decide)).trans q43
        have frm : ∀ j : Nat, j ≠ 26 → j ≠ 28 → j ≠ 29 → j ≠ 30 → j ≠ 31 → j ≠ 32 → j ≠ 43 → w8 j = w j := fun j k0 k1 k2 k3 k4 k5 k6 => (fr10 j k0).trans (frm j k0 k1 k2 k3 k4 k5 k6)
        refine lv_aload_n hx hb dX5_insert_34 rfl (lv_at hl 0 rfl) ?_
        refine kl_get (C := RX5) (T := TX5) (N := 31) (ci := 5) hx hb hts hinX5 hown hK hP f9 rfl 0 (by decide) (hts (.fieldLink RX5 71 "KinLedgerModel" "code" "I") (by decide +kernel)) (fun _ h9 => h9) rfl dX5_insert_35 ?_
        refine kl_z_le (tgt := 42) hx hb (by omega) dX5_insert_38 (by decide) (fun c38 => ?_) (fun c38 => absurd c38 (by omega))
        obtain ⟨tj, htj, rfl⟩ := c6
        have hcj := hcn4 tj htj
        have hok : (mt_tab (nI tj) nT ∧ a ≠ 0) := ⟨⟨tj, htj, rfl⟩, c10⟩
        refine lv_aload_n hx hb dX5_insert_42 rfl (lv_at hl 0 rfl) ?_
        refine kl_cVv (C := RX5) (i := 26) (As := []) (rest := []) ⟨hx, hb, hml, hown, hts⟩ (c_X5_remember l G B _ f9 q28 q29 q30 q31 q32 (by omega)) (cwV 0 hts gX5_insert_X5_remember rfl rfl rfl (by decide +kernel) ⟨Nat.le_of_ble_eq_true rfl, Nat.le_of_ble_eq_true rfl⟩) hK hP f9 rfl rfl hl.1 rfl (Nat.le_of_ble_eq_true rfl) dX5_insert_43 ⟨Nat.le_of_ble_eq_true rfl, Nat.le_of_ble_eq_true rfl⟩ (fun w11 H locs q12 hP => ?_)
        obtain ⟨f14, ⟨sO, sD, sG, f15, f16, f17, hsO, hsD⟩, fr18⟩ := q12
        have q27 : w11 27 = some (kl_aI G 4 ((fun t => nI (cn t)))) := (fr18 _ (by decide) (by decide) (by decide) (by decide)).trans q27
        have q28 : w11 28 = some (kl_aI G 24 O) := (fr18 _ (by decide) (by decide) (by decide) (by decide)).trans q28
        have q29 : w11 29 = some (kl_aI G 96 D) := (fr18 _ (by decide) (by decide) (by decide) (by decide)).trans q29
        have q33 : w11 33 = some (kl_aI G 7 lch) := (fr18 _ (by decide) (by decide) (by decide) (by decide)).trans q33
        have q34 : w11 34 = some (kl_aI G 7 ((fun t => nI (lco t)))) := (fr18 _ (by decide) (by decide) (by decide) (by decide)).trans q34
        have q35 : w11 35 = some (kl_aI G 7 lpa) := (fr18 _ (by decide) (by decide) (by decide) (by decide)).trans q35
        have q36 : w11 36 = some (kl_aI G 7 lwy) := (fr18 _ (by decide) (by decide) (by decide) (by decide)).trans q36
        have q37 : w11 37 = some (kl_aI G 5 stb) := (fr18 _ (by decide) (by decide) (by decide) (by decide)).trans q37
        have q38 : w11 38 = some (kl_aI G 5 ((fun t => nI (sco t)))) := (fr18 _ (by decide) (by decide) (by decide) (by decide)).trans q38
        have q39 : w11 39 = some (kl_aI G 5 ctb) := (fr18 _ (by decide) (by decide) (by decide) (by decide)).trans q39
        have q40 : w11 40 = some (kl_aI G 5 ((fun t => nI (cln t)))) := (fr18 _ (by decide) (by decide) (by decide) (by decide)).trans q40
        have q41 : w11 41 = some (kl_aI G 50 ((fun t => nI (cw t)))) := (fr18 _ (by decide) (by decide) (by decide) (by decide)).trans q41
        have q43 : w11 43 = some (kl_aI G 12 pl) := (fr18 _ (by decide) (by decide) (by decide) (by decide)).trans q43
        have f14 : w11 26 = some (.inr (5, [.int (nI 0), .int rs, .int (nI nT), .ref (B + 27), .int (nI n), .ref (B + 28), .ref (B + 29), .int (nI n), .ref (B + 30), .ref (B + 31), .ref (B + 32), .int (nI nL), .ref (B + 33), .ref (B + 34), .ref (B + 35), .ref (B + 36), .int (nI nS), .ref (B + 37), .ref (B + 38), .int (nI nC), .ref (B + 39), .ref (B + 40), .ref (B + 41), .int (nI nW), .ref (B + 42), .int hi, .ref (B + 43), .int (nI nM), .ref (B + 44), .ref (B + 45), .ref (B + 46)])) := f14
        have f15 : w11 30 = some (kl_aI G 24 sO) := f15
        have f16 : w11 31 = some (kl_aI G 96 sD) := f16
        have f17 : w11 32 = some (kl_aZ G 24 sG) := f17
        have frm : ∀ j : Nat, j ≠ 26 → j ≠ 28 → j ≠ 29 → j ≠ 30 → j ≠ 31 → j ≠ 32 → j ≠ 43 → w11 j = w j := fun j k0 k1 k2 k3 k4 k5 k6 => (fr18 j k0 k3 k4 k5).trans (frm j k0 k1 k2 k3 k4 k5 k6)
        refine lv_aload_n hx hb dX5_insert_46 rfl (lv_at hl 0 rfl) ?_
        refine kl_get (C := RX5) (T := TX5) (N := 31) (ci := 5) hx hb hts hinX5 hown hK hP f14 rfl 5 (by decide) (hts (.fieldLink RX5 13 "KinLedgerModel" "of" "[I") (by decide +kernel)) (fun _ h9 => h9) rfl dX5_insert_47 ?_
        refine lv_aload_n hx hb dX5_insert_50 rfl (lv_at hl 0 rfl) ?_
        refine kl_get (C := RX5) (T := TX5) (N := 31) (ci := 5) hx hb hts hinX5 hown hK hP f14 rfl 4 (by decide) (hts (.fieldLink RX5 82 "KinLedgerModel" "rows" "I") (by decide +kernel)) (fun _ h9 => h9) rfl dX5_insert_51 ?_
        refine lv_iload_n hx hb dX5_insert_54 rfl (lv_at hl 1 rfl) ?_
        refine kl_iast hx hb hK hP q28 (by omega) (by omega) dX5_insert_55 (fun w19 H locs f20 fr21 hzw19 hP => ?_)
        have f14 : w19 26 = some (.inr (5, [.int (nI 0), .int rs, .int (nI nT), .ref (B + 27), .int (nI n), .ref (B + 28), .ref (B + 29), .int (nI n), .ref (B + 30), .ref (B + 31), .ref (B + 32), .int (nI nL), .ref (B + 33), .ref (B + 34), .ref (B + 35), .ref (B + 36), .int (nI nS), .ref (B + 37), .ref (B + 38), .int (nI nC), .ref (B + 39), .ref (B + 40), .ref (B + 41), .int (nI nW), .ref (B + 42), .int hi, .ref (B + 43), .int (nI nM), .ref (B + 44), .ref (B + 45), .ref (B + 46)])) := (fr21 _ (by decide)).trans f14
        have q27 : w19 27 = some (kl_aI G 4 ((fun t => nI (cn t)))) := (fr21 _ (by decide)).trans q27
        have q29 : w19 29 = some (kl_aI G 96 D) := (fr21 _ (by decide)).trans q29
        have f15 : w19 30 = some (kl_aI G 24 sO) := (fr21 _ (by decide)).trans f15
        have f16 : w19 31 = some (kl_aI G 96 sD) := (fr21 _ (by decide)).trans f16
        have f17 : w19 32 = some (kl_aZ G 24 sG) := (fr21 _ (by decide)).trans f17
        have q33 : w19 33 = some (kl_aI G 7 lch) := (fr21 _ (by decide)).trans q33
        have q34 : w19 34 = some (kl_aI G 7 ((fun t => nI (lco t)))) := (fr21 _ (by decide)).trans q34
        have q35 : w19 35 = some (kl_aI G 7 lpa) := (fr21 _ (by decide)).trans q35
        have q36 : w19 36 = some (kl_aI G 7 lwy) := (fr21 _ (by decide)).trans q36
        have q37 : w19 37 = some (kl_aI G 5 stb) := (fr21 _ (by decide)).trans q37
        have q38 : w19 38 = some (kl_aI G 5 ((fun t => nI (sco t)))) := (fr21 _ (by decide)).trans q38
        have q39 : w19 39 = some (kl_aI G 5 ctb) := (fr21 _ (by decide)).trans q39
        have q40 : w19 40 = some (kl_aI G 5 ((fun t => nI (cln t)))) := (fr21 _ (by decide)).trans q40
        have q41 : w19 41 = some (kl_aI G 50 ((fun t => nI (cw t)))) := (fr21 _ (by decide)).trans q41
        have q43 : w19 43 = some (kl_aI G 12 pl) := (fr21 _ (by decide)).trans q43
        have frm : ∀ j : Nat, j ≠ 26 → j ≠ 28 → j ≠ 29 → j ≠ 30 → j ≠ 31 → j ≠ 32 → j ≠ 43 → w19 j = w j := fun j k0 k1 k2 k3 k4 k5 k6 => (fr21 j k1).trans (frm j k0 k1 k2 k3 k4 k5 k6)
        refine lv_aload_n hx hb dX5_insert_56 rfl (lv_at hl 0 rfl) ?_
        refine kl_get (C := RX5) (T := TX5) (N := 31) (ci := 5) hx hb hts hinX5 hown hK hP f14 rfl 6 (by decide) (hts (.fieldLink RX5 16 "KinLedgerModel" "cells" "[I") (by decide +kernel)) (fun _ h9 => h9) rfl dX5_insert_57 ?_
        refine lv_iconst (v := nI 4) hx hb dX5_insert_60 (by decide) ?_
        refine lv_aload_n hx hb dX5_insert_61 rfl (lv_at hl 0 rfl) ?_
        refine kl_get (C := RX5) (T := TX5) (N := 31) (ci := 5) hx hb hts hinX5 hown hK hP f14 rfl 4 (by decide) (hts (.fieldLink RX5 82 "KinLedgerModel" "rows" "I") (by decide +kernel)) (fun _ h9 => h9) rfl dX5_insert_62 ?_
        refine lv_imul hx hb dX5_insert_65 ?_
        refine kl_top (z := nI (4 * n)) (pk_mul _ _) ?_
        refine lv_iload_n hx hb dX5_insert_66 rfl (lv_at hl 2 rfl) ?_
        refine kl_iast hx hb hK hP q29 (by omega) (by omega) dX5_insert_67 (fun w22 H locs f23 fr24 hzw22 hP => ?_)
        have f14 : w22 26 = some (.inr (5, [.int (nI 0), .int rs, .int (nI nT), .ref (B + 27), .int (nI n), .ref (B + 28), .ref (B + 29), .int (nI n), .ref (B + 30), .ref (B + 31), .ref (B + 32), .int (nI nL), .ref (B + 33), .ref (B + 34), .ref (B + 35), .ref (B + 36), .int (nI nS), .ref (B + 37), .ref (B + 38), .int (nI nC), .ref (B + 39), .ref (B + 40), .ref (B + 41), .int (nI nW), .ref (B + 42), .int hi, .ref (B + 43), .int (nI nM), .ref (B + 44), .ref (B + 45), .ref (B + 46)])) := (fr24 _ (by decide)).trans f14
        have q27 : w22 27 = some (kl_aI G 4 ((fun t => nI (cn t)))) := (fr24 _ (by decide)).trans q27
        have f20 : w22 28 = some (kl_aI G 24 (upd O n (nI tj))) := (fr24 _ (by decide)).trans f20
        have f15 : w22 30 = some (kl_aI G 24 sO) := (fr24 _ (by decide)).trans f15
        have f16 : w22 31 = some (kl_aI G 96 sD) := (fr24 _ (by decide)).trans f16
        have f17 : w22 32 = some (kl_aZ G 24 sG) := (fr24 _ (by decide)).trans f17
        have q33 : w22 33 = some (kl_aI G 7 lch) := (fr24 _ (by decide)).trans q33
        have q34 : w22 34 = some (kl_aI G 7 ((fun t => nI (lco t)))) := (fr24 _ (by decide)).trans q34
        have q35 : w22 35 = some (kl_aI G 7 lpa) := (fr24 _ (by decide)).trans q35
        have q36 : w22 36 = some (kl_aI G 7 lwy) := (fr24 _ (by decide)).trans q36
        have q37 : w22 37 = some (kl_aI G 5 stb) := (fr24 _ (by decide)).trans q37
        have q38 : w22 38 = some (kl_aI G 5 ((fun t => nI (sco t)))) := (fr24 _ (by decide)).trans q38
        have q39 : w22 39 = some (kl_aI G 5 ctb) := (fr24 _ (by decide)).trans q39
        have q40 : w22 40 = some (kl_aI G 5 ((fun t => nI (cln t)))) := (fr24 _ (by decide)).trans q40
        have q41 : w22 41 = some (kl_aI G 50 ((fun t => nI (cw t)))) := (fr24 _ (by decide)).trans q41
        have q43 : w22 43 = some (kl_aI G 12 pl) := (fr24 _ (by decide)).trans q43
        have frm : ∀ j : Nat, j ≠ 26 → j ≠ 28 → j ≠ 29 → j ≠ 30 → j ≠ 31 → j ≠ 32 → j ≠ 43 → w22 j = w j := fun j k0 k1 k2 k3 k4 k5 k6 => (fr24 j k2).trans (frm j k0 k1 k2 k3 k4 k5 k6)
        refine lv_aload_n hx hb dX5_insert_68 rfl (lv_at hl 0 rfl) ?_
        refine kl_get (C := RX5) (T := TX5) (N := 31) (ci := 5) hx hb hts hinX5 hown hK hP f14 rfl 6 (by decide) (hts (.fieldLink RX5 16 "KinLedgerModel" "cells" "[I") (by decide +kernel)) (fun _ h9 => h9) rfl dX5_insert_69 ?_
        refine lv_iconst (v := nI 4) hx hb dX5_insert_72 (by decide) ?_
        refine lv_aload_n hx hb dX5_insert_73 rfl (lv_at hl 0 rfl) ?_
        refine kl_get (C := RX5) (T := TX5) (N := 31) (ci := 5) hx hb hts hinX5 hown hK hP f14 rfl 4 (by decide) (hts (.fieldLink RX5 82 "KinLedgerModel" "rows" "I") (by decide +kernel)) (fun _ h9 => h9) rfl dX5_insert_74 ?_
        refine lv_imul hx hb dX5_insert_77 ?_
        refine kl_top (z := nI (4 * n)) (pk_mul _ _) ?_
        refine lv_iconst (v := nI 1) hx hb dX5_insert_78 (by decide) ?_
        refine lv_iadd hx hb dX5_insert_79 ?_
        refine kl_top (z := nI (4 * n + 1)) (by first | exact nI_add _ _ | (rw [nI_add]; first | rfl | (congr 1; omega))) ?_
        refine lv_iload_n hx hb dX5_insert_80 rfl (lv_at hl 3 rfl) ?_
        refine kl_iast hx hb hK hP f23 (by omega) (by omega) dX5_insert_81 (fun w25 H locs f26 fr27 hzw25 hP => ?_)
        have f14 : w25 26 = some (.inr (5, [.int (nI 0), .int rs, .int (nI nT), .ref (B + 27), .int (nI n), .ref (B + 28), .ref (B + 29), .int (nI n), .ref (B + 30), .ref (B + 31), .ref (B + 32), .int (nI nL), .ref (B + 33), .ref (B + 34), .ref (B + 35), .ref (B + 36), .int (nI nS), .ref (B + 37), .ref (B + 38), .int (nI nC), .ref (B + 39), .ref (B + 40), .ref (B + 41), .int (nI nW), .ref (B + 42), .int hi, .ref (B + 43), .int (nI nM), .ref (B + 44), .ref (B + 45), .ref (B + 46)])) := (fr27 _ (by decide)).trans f14
        have q27 : w25 27 = some (kl_aI G 4 ((fun t => nI (cn t)))) := (fr27 _ (by decide)).trans q27
        have f20 : w25 28 = some (kl_aI G 24 (upd O n (nI tj))) := (fr27 _ (by decide)).trans f20
        have f15 : w25 30 = some (kl_aI G 24 sO) := (fr27 _ (by decide)).trans f15
        have f16 : w25 31 = some (kl_aI G 96 sD) := (fr27 _ (by decide)).trans f16
        have f17 : w25 32 = some (kl_aZ G 24 sG) := (fr27 _ (by decide)).trans f17
        have q33 : w25 33 = some (kl_aI G 7 lch) := (fr27 _ (by decide)).trans q33
        have q34 : w25 34 = some (kl_aI G 7 ((fun t => nI (lco t)))) := (fr27 _ (by decide)).trans q34
        have q35 : w25 35 = some (kl_aI G 7 lpa) := (fr27 _ (by decide)).trans q35
        have q36 : w25 36 = some (kl_aI G 7 lwy) := (fr27 _ (by decide)).trans q36
        have q37 : w25 37 = some (kl_aI G 5 stb) := (fr27 _ (by decide)).trans q37
        have q38 : w25 38 = some (kl_aI G 5 ((fun t => nI (sco t)))) := (fr27 _ (by decide)).trans q38
        have q39 : w25 39 = some (kl_aI G 5 ctb) := (fr27 _ (by decide)).trans q39
        have q40 : w25 40 = some (kl_aI G 5 ((fun t => nI (cln t)))) := (fr27 _ (by decide)).trans q40
        have q41 : w25 41 = some (kl_aI G 50 ((fun t => nI (cw t)))) := (fr27 _ (by decide)).trans q41
        have q43 : w25 43 = some (kl_aI G 12 pl) := (fr27 _ (by decide)).trans q43
        have frm : ∀ j : Nat, j ≠ 26 → j ≠ 28 → j ≠ 29 → j ≠ 30 → j ≠ 31 → j ≠ 32 → j ≠ 43 → w25 j = w j := fun j k0 k1 k2 k3 k4 k5 k6 => (fr27 j k2).trans (frm j k0 k1 k2 k3 k4 k5 k6)
        refine lv_aload_n hx hb dX5_insert_82 rfl (lv_at hl 0 rfl) ?_
        refine kl_get (C := RX5) (T := TX5) (N := 31) (ci := 5) hx hb hts hinX5 hown hK hP f14 rfl 6 (by decide) (hts (.fieldLink RX5 16 "KinLedgerModel" "cells" "[I") (by decide +kernel)) (fun _ h9 => h9) rfl dX5_insert_83 ?_
        refine lv_iconst (v := nI 4) hx hb dX5_insert_86 (by decide) ?_
        refine lv_aload_n hx hb dX5_insert_87 rfl (lv_at hl 0 rfl) ?_
        refine kl_get (C := RX5) (T := TX5) (N := 31) (ci := 5) hx hb hts hinX5 hown hK hP f14 rfl 4 (by decide) (hts (.fieldLink RX5 82 "KinLedgerModel" "rows" "I") (by decide +kernel)) (fun _ h9 => h9) rfl dX5_insert_88 ?_
        refine lv_imul hx hb dX5_insert_91 ?_
        refine kl_top (z := nI (4 * n)) (pk_mul _ _) ?_
        refine lv_iconst (v := nI 2) hx hb dX5_insert_92 (by decide) ?_
        refine lv_iadd hx hb dX5_insert_93 ?_
        refine kl_top (z := nI (4 * n + 2)) (by first | exact nI_add _ _ | (rw [nI_add]; first | rfl | (congr 1; omega))) ?_
        refine lv_aload_n hx hb dX5_insert_94 rfl (lv_at hl 0 rfl) ?_
        refine kl_get (C := RX5) (T := TX5) (N := 31) (ci := 5) hx hb hts hinX5 hown hK hP f14 rfl 3 (by decide) (hts (.fieldLink RX5 7 "KinLedgerModel" "columns" "[I") (by decide +kernel)) (fun _ h9 => h9) rfl dX5_insert_95 ?_
        refine lv_iload_n hx hb dX5_insert_98 rfl (lv_at hl 1 rfl) ?_
        refine kl_iald hx hb hK hP q27 (by omega) (by omega) dX5_insert_99 ?_
        refine kl_top (z := nI (cn tj)) rfl ?_
        refine lv_iconst (v := nI 2) hx hb dX5_insert_100 (by decide) ?_
        refine kl_le (tgt := 109) hx hb (by omega) (by omega) dX5_insert_101 (by decide) (fun c101 => ?_) (fun c101 => ?_)
        · refine lv_iconst (v := nI 0) hx hb dX5_insert_109 (by decide) ?_
          refine kl_iast hx hb hK hP f26 (by omega) (by omega) dX5_insert_110 (fun w28 H locs f29 fr30 hzw28 hP => ?_)
          have f14 : w28 26 = some (.inr (5, [.int (nI 0), .int rs, .int (nI nT), .ref (B + 27), .int (nI n), .ref (B + 28), .ref (B + 29), .int (nI n), .ref (B + 30), .ref (B + 31), .ref (B + 32), .int (nI nL), .ref (B + 33), .ref (B + 34), .ref (B + 35), .ref (B + 36), .int (nI nS), .ref (B + 37), .ref (B + 38), .int (nI nC), .ref (B + 39), .ref (B + 40), .ref (B + 41), .int (nI nW), .ref (B + 42), .int hi, .ref (B + 43), .int (nI nM), .ref (B + 44), .ref (B + 45), .ref (B + 46)])) := (fr30 _ (by decide)).trans f14
          have q27 : w28 27 = some (kl_aI G 4 ((fun t => nI (cn t)))) := (fr30 _ (by decide)).trans q27
          have f20 : w28 28 = some (kl_aI G 24 (upd O n (nI tj))) := (fr30 _ (by decide)).trans f20
          have f15 : w28 30 = some (kl_aI G 24 sO) := (fr30 _ (by decide)).trans f15
          have f16 : w28 31 = some (kl_aI G 96 sD) := (fr30 _ (by decide)).trans f16
          have f17 : w28 32 = some (kl_aZ G 24 sG) := (fr30 _ (by decide)).trans f17
          have q33 : w28 33 = some (kl_aI G 7 lch) := (fr30 _ (by decide)).trans q33
          have q34 : w28 34 = some (kl_aI G 7 ((fun t => nI (lco t)))) := (fr30 _ (by decide)).trans q34
          have q35 : w28 35 = some (kl_aI G 7 lpa) := (fr30 _ (by decide)).trans q35
          have q36 : w28 36 = some (kl_aI G 7 lwy) := (fr30 _ (by decide)).trans q36
          have q37 : w28 37 = some (kl_aI G 5 stb) := (fr30 _ (by decide)).trans q37
          have q38 : w28 38 = some (kl_aI G 5 ((fun t => nI (sco t)))) := (fr30 _ (by decide)).trans q38
          have q39 : w28 39 = some (kl_aI G 5 ctb) := (fr30 _ (by decide)).trans q39
          have q40 : w28 40 = some (kl_aI G 5 ((fun t => nI (cln t)))) := (fr30 _ (by decide)).trans q40
          have q41 : w28 41 = some (kl_aI G 50 ((fun t => nI (cw t)))) := (fr30 _ (by decide)).trans q41
          have q43 : w28 43 = some (kl_aI G 12 pl) := (fr30 _ (by decide)).trans q43
          have frm : ∀ j : Nat, j ≠ 26 → j ≠ 28 → j ≠ 29 → j ≠ 30 → j ≠ 31 → j ≠ 32 → j ≠ 43 → w28 j = w j := fun j k0 k1 k2 k3 k4 k5 k6 => (fr30 j k2).trans (frm j k0 k1 k2 k3 k4 k5 k6)
          refine lv_aload_n hx hb dX5_insert_111 rfl (lv_at hl 0 rfl) ?_
          refine kl_get (C := RX5) (T := TX5) (N := 31) (ci := 5) hx hb hts hinX5 hown hK hP f14 rfl 6 (by decide) (hts (.fieldLink RX5 16 "KinLedgerModel" "cells" "[I") (by decide +kernel)) (fun _ h9 => h9) rfl dX5_insert_112 ?_
          refine lv_iconst (v := nI 4) hx hb dX5_insert_115 (by decide) ?_
          refine lv_aload_n hx hb dX5_insert_116 rfl (lv_at hl 0 rfl) ?_
          refine kl_get (C := RX5) (T := TX5) (N := 31) (ci := 5) hx hb hts hinX5 hown hK hP f14 rfl 4 (by decide) (hts (.fieldLink RX5 82 "KinLedgerModel" "rows" "I") (by decide +kernel)) (fun _ h9 => h9) rfl dX5_insert_117 ?_
          refine lv_imul hx hb dX5_insert_120 ?_
          refine kl_top (z := nI (4 * n)) (pk_mul _ _) ?_
          refine lv_iconst (v := nI 3) hx hb dX5_insert_121 (by decide) ?_
          refine lv_iadd hx hb dX5_insert_122 ?_
          refine kl_top (z := nI (4 * n + 3)) (by first | exact nI_add _ _ | (rw [nI_add]; first | rfl | (congr 1; omega))) ?_
          refine lv_aload_n hx hb dX5_insert_123 rfl (lv_at hl 0 rfl) ?_
          refine kl_get (C := RX5) (T := TX5) (N := 31) (ci := 5) hx hb hts hinX5 hown hK hP f14 rfl 3 (by decide) (hts (.fieldLink RX5 7 "KinLedgerModel" "columns" "[I") (by decide +kernel)) (fun _ h9 => h9) rfl dX5_insert_124 ?_
          refine lv_iload_n hx hb dX5_insert_127 rfl (lv_at hl 1 rfl) ?_
          refine kl_iald hx hb hK hP q27 (by omega) (by omega) dX5_insert_128 ?_
          refine kl_top (z := nI (cn tj)) rfl ?_
          refine lv_iconst (v := nI 3) hx hb dX5_insert_129 (by decide) ?_
          refine kl_le (tgt := 138) hx hb (by omega) (by omega) dX5_insert_130 (by decide) (fun c130 => ?_) (fun c130 => ?_)
          · refine lv_iconst (v := nI 0) hx hb dX5_insert_138 (by decide) ?_
            refine kl_iast hx hb hK hP f29 (by omega) (by omega) dX5_insert_139 (fun w31 H locs f32 fr33 hzw31 hP => ?_)
            have f14 : w31 26 = some (.inr (5, [.int (nI 0), .int rs, .int (nI nT), .ref (B + 27), .int (nI n), .ref (B + 28), .ref (B + 29), .int (nI n), .ref (B + 30), .ref (B + 31), .ref (B + 32), .int (nI nL), .ref (B + 33), .ref (B + 34), .ref (B + 35), .ref (B + 36), .int (nI nS), .ref (B + 37), .ref (B + 38), .int (nI nC), .ref (B + 39), .ref (B + 40), .ref (B + 41), .int (nI nW), .ref (B + 42), .int hi, .ref (B + 43), .int (nI nM), .ref (B + 44), .ref (B + 45), .ref (B + 46)])) := (fr33 _ (by decide)).trans f14
            have q27 : w31 27 = some (kl_aI G 4 ((fun t => nI (cn t)))) := (fr33 _ (by decide)).trans q27
            have f20 : w31 28 = some (kl_aI G 24 (upd O n (nI tj))) := (fr33 _ (by decide)).trans f20
            have f15 : w31 30 = some (kl_aI G 24 sO) := (fr33 _ (by decide)).trans f15
            have f16 : w31 31 = some (kl_aI G 96 sD) := (fr33 _ (by decide)).trans f16
            have f17 : w31 32 = some (kl_aZ G 24 sG) := (fr33 _ (by decide)).trans f17
            have q33 : w31 33 = some (kl_aI G 7 lch) := (fr33 _ (by decide)).trans q33
            have q34 : w31 34 = some (kl_aI G 7 ((fun t => nI (lco t)))) := (fr33 _ (by decide)).trans q34
            have q35 : w31 35 = some (kl_aI G 7 lpa) := (fr33 _ (by decide)).trans q35
            have q36 : w31 36 = some (kl_aI G 7 lwy) := (fr33 _ (by decide)).trans q36
            have q37 : w31 37 = some (kl_aI G 5 stb) := (fr33 _ (by decide)).trans q37
            have q38 : w31 38 = some (kl_aI G 5 ((fun t => nI (sco t)))) := (fr33 _ (by decide)).trans q38
            have q39 : w31 39 = some (kl_aI G 5 ctb) := (fr33 _ (by decide)).trans q39
            have q40 : w31 40 = some (kl_aI G 5 ((fun t => nI (cln t)))) := (fr33 _ (by decide)).trans q40
            have q41 : w31 41 = some (kl_aI G 50 ((fun t => nI (cw t)))) := (fr33 _ (by decide)).trans q41
            have q43 : w31 43 = some (kl_aI G 12 pl) := (fr33 _ (by decide)).trans q43
            have frm : ∀ j : Nat, j ≠ 26 → j ≠ 28 → j ≠ 29 → j ≠ 30 → j ≠ 31 → j ≠ 32 → j ≠ 43 → w31 j = w j := fun j k0 k1 k2 k3 k4 k5 k6 => (fr33 j k2).trans (frm j k0 k1 k2 k3 k4 k5 k6)
            have hmi : upd (upd (upd (upd D (4 * n) a) (4 * n + 1) b) (4 * n + 2) (nI 0)) (4 * n + 3) (nI 0) = md_ins D n (cn tj) a b c d := by unfold md_ins; rw [if_neg (by omega), if_neg (by omega)]
            rw [hmi] at f32
            refine lv_aload_n hx hb dX5_insert_140 rfl (lv_at hl 0 rfl) ?_
            refine lv_dup hx hb dX5_insert_141 rfl ?_
            refine kl_get (C := RX5) (T := TX5) (N := 31) (ci := 5) hx hb hts hinX5 hown hK hP f14 rfl 4 (by decide) (hts (.fieldLink RX5 82 "KinLedgerModel" "rows" "I") (by decide +kernel)) (fun _ h9 => h9) rfl dX5_insert_142 ?_
            refine lv_iconst (v := nI 1) hx hb dX5_insert_145 (by decide) ?_
            refine lv_iadd hx hb dX5_insert_146 ?_
            refine kl_top (z := nI (n + 1)) (by first | exact nI_add _ _ | (rw [nI_add]; first | rfl | (congr 1; omega))) ?_
            refine kl_put (C := RX5) (T := TX5) (N := 31) (ci := 5) (v := .int (nI (n + 1))) (ty := .int) hx hb hts hinX5 tyX5 tyX5_ok nmX5 hown hK hP f14 rfl 4 (by decide) (hts (.fieldLink RX5 82 "KinLedgerModel" "rows" "I") (by decide +kernel)) (fun _ h9 => h9) rfl (by decide +kernel) rfl rfl (Nat.le_of_ble_eq_true rfl) dX5_insert_147 (fun w34 H locs f35 fr36 hzw34 hP => ?_)
            have f35 : w34 26 = some (.inr (5, [.int (nI 0), .int rs, .int (nI nT), .ref (B + 27), .int (nI (n + 1)), .ref (B + 28), .ref (B + 29), .int (nI n), .ref (B + 30), .ref (B + 31), .ref (B + 32), .int (nI nL), .ref (B + 33), .ref (B + 34), .ref (B + 35), .ref (B + 36), .int (nI nS), .ref (B + 37), .ref (B + 38), .int (nI nC), .ref (B + 39), .ref (B + 40), .ref (B + 41), .int (nI nW), .ref (B + 42), .int hi, .ref (B + 43), .int (nI nM), .ref (B + 44), .ref (B + 45), .ref (B + 46)])) := f35
            have q27 : w34 27 = some (kl_aI G 4 ((fun t => nI (cn t)))) := (fr36 _ (by decide)).trans q27
            have f20 : w34 28 = some (kl_aI G 24 (upd O n (nI tj))) := (fr36 _ (by decide)).trans f20
            have f32 : w34 29 = some (kl_aI G 96 ((md_ins D n (cn tj) a b c d))) := (fr36 _ (by decide)).trans f32
            have f15 : w34 30 = some (kl_aI G 24 sO) := (fr36 _ (by decide)).trans f15
            have f16 : w34 31 = some (kl_aI G 96 sD) := (fr36 _ (by decide)).trans f16
            have f17 : w34 32 = some (kl_aZ G 24 sG) := (fr36 _ (by decide)).trans f17
            have q33 : w34 33 = some (kl_aI G 7 lch) := (fr36 _ (by decide)).trans q33
            have q34 : w34 34 = some (kl_aI G 7 ((fun t => nI (lco t)))) := (fr36 _ (by decide)).trans q34
            have q35 : w34 35 = some (kl_aI G 7 lpa) := (fr36 _ (by decide)).trans q35
            have q36 : w34 36 = some (kl_aI G 7 lwy) := (fr36 _ (by decide)).trans q36
            have q37 : w34 37 = some (kl_aI G 5 stb) := (fr36 _ (by decide)).trans q37
            have q38 : w34 38 = some (kl_aI G 5 ((fun t => nI (sco t)))) := (fr36 _ (by decide)).trans q38
            have q39 : w34 39 = some (kl_aI G 5 ctb) := (fr36 _ (by decide)).trans q39
            have q40 : w34 40 = some (kl_aI G 5 ((fun t => nI (cln t)))) := (fr36 _ (by decide)).trans q40
            have q41 : w34 41 = some (kl_aI G 50 ((fun t => nI (cw t)))) := (fr36 _ (by decide)).trans q41
            have q43 : w34 43 = some (kl_aI G 12 pl) := (fr36 _ (by decide)).trans q43
            have frm : ∀ j : Nat, j ≠ 26 → j ≠ 28 → j ≠ 29 → j ≠ 30 → j ≠ 31 → j ≠ 32 → j ≠ 43 → w34 j = w j := fun j k0 k1 k2 k3 k4 k5 k6 => (fr36 j k0).trans (frm j k0 k1 k2 k3 k4 k5 k6)
            refine lv_aload_n hx hb dX5_insert_150 rfl (lv_at hl 0 rfl) ?_
            refine lv_aload_n hx hb dX5_insert_151 rfl (lv_at hl 0 rfl) ?_
            refine lv_iconst (v := nI 0) hx hb dX5_insert_152 (by decide) ?_
            refine lv_iconst (v := nI 3) hx hb dX5_insert_153 (by decide) ?_
            refine kl_cVi (C := RX5) (i := 26) (As := [.int (nI 0), .int (nI 3)]) (rest := [.ref (B + 26)]) ⟨hx, hb, hml, hown, hts⟩ (c_X5_settle l G B _ ccol 0 3 f35 f20 f32 f15 f16 q33 q34 q35 q36 q37 q38 q39 q40 q41 q43 ⟨by omega, by omega, by omega, by omega, by omega⟩ hrp (by omega) (by omega) (by omega)) (cwV 2 hts gX5_insert_X5_settle rfl rfl rfl (by decide +kernel) ⟨Nat.le_of_ble_eq_true rfl, Nat.le_of_ble_eq_true rfl⟩) hK hP f35 rfl rfl hl.1 rfl (Nat.le_of_ble_eq_true rfl) dX5_insert_154 ⟨Nat.le_of_ble_eq_true rfl, Nat.le_of_ble_eq_true rfl⟩ (fun r39 w37 H locs q38 hP => ?_)
            rcases q38 with ⟨hsw, rfl, ⟨h9, f40⟩, f41, f42, ⟨p9, f43⟩, fr44⟩ | ⟨y2, hy0, hsw, rfl, ⟨h9, f40⟩, ⟨O2, D2, f41, f42, hO2, hD2⟩, ⟨p9, f43⟩, fr44⟩
            · have q27 : w37 27 = some (kl_aI G 4 ((fun t => nI (cn t)))) := (fr44 _ (by decide) (by decide) (by decide) (by decide)).trans q27
              have f15 : w37 30 = some (kl_aI G 24 sO) := (fr44 _ (by decide) (by decide) (by decide) (by decide)).trans f15
              have f16 : w37 31 = some (kl_aI G 96 sD) := (fr44 _ (by decide) (by decide) (by decide) (by decide)).trans f16
              have f17 : w37 32 = some (kl_aZ G 24 sG) := (fr44 _ (by decide) (by decide) (by decide) (by decide)).trans f17
              have q33 : w37 33 = some (kl_aI G 7 lch) := (fr44 _ (by decide) (by decide) (by decide) (by decide)).trans q33
              have q34 : w37 34 = some (kl_aI G 7 ((fun t => nI (lco t)))) := (fr44 _ (by decide) (by decide) (by decide) (by decide)).trans q34
              have q35 : w37 35 = some (kl_aI G 7 lpa) := (fr44 _ (by decide) (by decide) (by decide) (by decide)).trans q35
              have q36 : w37 36 = some (kl_aI G 7 lwy) := (fr44 _ (by decide) (by decide) (by decide) (by decide)).trans q36
              have q37 : w37 37 = some (kl_aI G 5 stb) := (fr44 _ (by decide) (by decide) (by decide) (by decide)).trans q37
              have q38 : w37 38 = some (kl_aI G 5 ((fun t => nI (sco t)))) := (fr44 _ (by decide) (by decide) (by decide) (by decide)).trans q38
              have q39 : w37 39 = some (kl_aI G 5 ctb) := (fr44 _ (by decide) (by decide) (by decide) (by decide)).trans q39
              have q40 : w37 40 = some (kl_aI G 5 ((fun t => nI (cln t)))) := (fr44 _ (by decide) (by decide) (by decide) (by decide)).trans q40
              have q41 : w37 41 = some (kl_aI G 50 ((fun t => nI (cw t)))) := (fr44 _ (by decide) (by decide) (by decide) (by decide)).trans q41
              have f40 : w37 26 = some (.inr (5, [.int (nI 0), .int rs, .int (nI nT), .ref (B + 27), .int (nI (n + 1)), .ref (B + 28), .ref (B + 29), .int (nI n), .ref (B + 30), .ref (B + 31), .ref (B + 32), .int (nI nL), .ref (B + 33), .ref (B + 34), .ref (B + 35), .ref (B + 36), .int (nI nS), .ref (B + 37), .ref (B + 38), .int (nI nC), .ref (B + 39), .ref (B + 40), .ref (B + 41), .int (nI nW), .ref (B + 42), .int h9, .ref (B + 43), .int (nI nM), .ref (B + 44), .ref (B + 45), .ref (B + 46)])) := f40
              have f41 : w37 28 = some (kl_aI G 24 (upd O n (nI tj))) := f41
              have f42 : w37 29 = some (kl_aI G 96 ((md_ins D n (cn tj) a b c d))) := f42
              have f43 : w37 43 = some (kl_aI G 12 p9) := f43
              have frm : ∀ j : Nat, j ≠ 26 → j ≠ 28 → j ≠ 29 → j ≠ 30 → j ≠ 31 → j ≠ 32 → j ≠ 43 → w37 j = w j := fun j k0 k1 k2 k3 k4 k5 k6 => (fr44 j k0 k1 k2 k6).trans (frm j k0 k1 k2 k3 k4 k5 k6)
              refine kl_put (C := RX5) (T := TX5) (N := 31) (ci := 5) (v := .int (nI 0)) (ty := .int) hx hb hts hinX5 tyX5 tyX5_ok nmX5 hown hK hP f40 rfl 0 (by decide) (hts (.fieldLink RX5 71 "KinLedgerModel" "code" "I") (by decide +kernel)) (fun _ h9 => h9) rfl (by decide +kernel) rfl rfl (Nat.le_of_ble_eq_true rfl) dX5_insert_157 (fun w45 H locs f46 fr47 hzw45 hP => ?_)
              have f46 : w45 26 = some (.inr (5, [.int (nI 0), .int rs, .int (nI nT), .ref (B + 27), .int (nI (n + 1)), .ref (B + 28), .ref (B + 29), .int (nI n), .ref (B + 30), .ref (B + 31), .ref (B + 32), .int (nI nL), .ref (B + 33), .ref (B + 34), .ref (B + 35), .ref (B + 36), .int (nI nS), .ref (B + 37), .ref (B + 38), .int (nI nC), .ref (B + 39), .ref (B + 40), .ref (B + 41), .int (nI nW), .ref (B + 42), .int h9, .ref (B + 43), .int (nI nM), .ref (B + 44), .ref (B + 45), .ref (B + 46)])) := f46
              have q27 : w45 27 = some (kl_aI G 4 ((fun t => nI (cn t)))) := (fr47 _ (by decide)).trans q27
              have f41 : w45 28 = some (kl_aI G 24 (upd O n (nI tj))) := (fr47 _ (by decide)).trans f41
              have f42 : w45 29 = some (kl_aI G 96 ((md_ins D n (cn tj) a b c d))) := (fr47 _ (by decide)).trans f42
              have f15 : w45 30 = some (kl_aI G 24 sO) := (fr47 _ (by decide)).trans f15
              have f16 : w45 31 = some (kl_aI G 96 sD) := (fr47 _ (by decide)).trans f16
              have f17 : w45 32 = some (kl_aZ G 24 sG) := (fr47 _ (by decide)).trans f17
              have q33 : w45 33 = some (kl_aI G 7 lch) := (fr47 _ (by decide)).trans q33
              have q34 : w45 34 = some (kl_aI G 7 ((fun t => nI (lco t)))) := (fr47 _ (by decide)).trans q34
              have q35 : w45 35 = some (kl_aI G 7 lpa) := (fr47 _ (by decide)).trans q35
              have q36 : w45 36 = some (kl_aI G 7 lwy) := (fr47 _ (by decide)).trans q36
              have q37 : w45 37 = some (kl_aI G 5 stb) := (fr47 _ (by decide)).trans q37
              have q38 : w45 38 = some (kl_aI G 5 ((fun t => nI (sco t)))) := (fr47 _ (by decide)).trans q38
              have q39 : w45 39 = some (kl_aI G 5 ctb) := (fr47 _ (by decide)).trans q39
              have q40 : w45 40 = some (kl_aI G 5 ((fun t => nI (cln t)))) := (fr47 _ (by decide)).trans q40
              have q41 : w45 41 = some (kl_aI G 50 ((fun t => nI (cw t)))) := (fr47 _ (by decide)).trans q41
              have f43 : w45 43 = some (kl_aI G 12 p9) := (fr47 _ (by decide)).trans f43
              have frm : ∀ j : Nat, j ≠ 26 → j ≠ 28 → j ≠ 29 → j ≠ 30 → j ≠ 31 → j ≠ 32 → j ≠ 43 → w45 j = w j := fun j k0 k1 k2 k3 k4 k5 k6 => (fr47 j k0).trans (frm j k0 k1 k2 k3 k4 k5 k6)
              exact kl_vret hx hb hr hlocks hP (Or.inr (Or.inr (Or.inl (⟨hok, by omega, tj, htj, rfl, hsw, ⟨_, _, f46⟩, f41, f42, ⟨_, _, _, _, f15, f16, f17, f43⟩, frm⟩)))) dX5_insert_160
            · have q27 : w37 27 = some (kl_aI G 4 ((fun t => nI (cn t)))) := (fr44 _ (by decide) (by decide) (by decide) (by decide)).trans q27
              have f15 : w37 30 = some (kl_aI G 24 sO) := (fr44 _ (by decide) (by decide) (by decide) (by decide)).trans f15
              have f16 : w37 31 = some (kl_aI G 96 sD) := (fr44 _ (by decide) (by decide) (by decide) (by decide)).trans f16
              have f17 : w37 32 = some (kl_aZ G 24 sG) := (fr44 _ (by decide) (by decide) (by decide) (by decide)).trans f17
              have q33 : w37 33 = some (kl_aI G 7 lch) := (fr44 _ (by decide) (by decide) (by decide) (by decide)).trans q33
              have q34 : w37 34 = some (kl_aI G 7 ((fun t => nI (lco t)))) := (fr44 _ (by decide) (by decide) (by decide) (by decide)).trans q34
              have q35 : w37 35 = some (kl_aI G 7 lpa) := (fr44 _ (by decide) (by decide) (by decide) (by decide)).trans q35
              have q36 : w37 36 = some (kl_aI G 7 lwy) := (fr44 _ (by decide) (by decide) (by decide) (by decide)).trans q36
              have q37 : w37 37 = some (kl_aI G 5 stb) := (fr44 _ (by decide) (by decide) (by decide) (by decide)).trans q37
              have q38 : w37 38 = some (kl_aI G 5 ((fun t => nI (sco t)))) := (fr44 _ (by decide) (by decide) (by decide) (by decide)).trans q38
              have q39 : w37 39 = some (kl_aI G 5 ctb) := (fr44 _ (by decide) (by decide) (by decide) (by decide)).trans q39
              have q40 : w37 40 = some (kl_aI G 5 ((fun t => nI (cln t)))) := (fr44 _ (by decide) (by decide) (by decide) (by decide)).trans q40
              have q41 : w37 41 = some (kl_aI G 50 ((fun t => nI (cw t)))) := (fr44 _ (by decide) (by decide) (by decide) (by decide)).trans q41
              have f40 : w37 26 = some (.inr (5, [.int (nI 0), .int y2, .int (nI nT), .ref (B + 27), .int (nI n), .ref (B + 28), .ref (B + 29), .int (nI n), .ref (B + 30), .ref (B + 31), .ref (B + 32), .int (nI nL), .ref (B + 33), .ref (B + 34), .ref (B + 35), .ref (B + 36), .int (nI nS), .ref (B + 37), .ref (B + 38), .int (nI nC), .ref (B + 39), .ref (B + 40), .ref (B + 41), .int (nI nW), .ref (B + 42), .int h9, .ref (B + 43), .int (nI nM), .ref (B + 44), .ref (B + 45), .ref (B + 46)])) := f40
              have f41 : w37 28 = some (kl_aI G 24 O2) := f41
              have f42 : w37 29 = some (kl_aI G 96 D2) := f42
              have f43 : w37 43 = some (kl_aI G 12 p9) := f43
              have frm : ∀ j : Nat, j ≠ 26 → j ≠ 28 → j ≠ 29 → j ≠ 30 → j ≠ 31 → j ≠ 32 → j ≠ 43 → w37 j = w j := fun j k0 k1 k2 k3 k4 k5 k6 => (fr44 j k0 k1 k2 k6).trans (frm j k0 k1 k2 k3 k4 k5 k6)
              refine kl_put (C := RX5) (T := TX5) (N := 31) (ci := 5) (v := .int (nI 3)) (ty := .int) hx hb hts hinX5 tyX5 tyX5_ok nmX5 hown hK hP f40 rfl 0 (by decide) (hts (.fieldLink RX5 71 "KinLedgerModel" "code" "I") (by decide +kernel)) (fun _ h9 => h9) rfl (by decide +kernel) rfl rfl (Nat.le_of_ble_eq_true rfl) dX5_insert_157 (fun w48 H locs f49 fr50 hzw48 hP => ?_)
              have f49 : w48 26 = some (.inr (5, [.int (nI 3), .int y2, .int (nI nT), .ref (B + 27), .int (nI n), .ref (B + 28), .ref (B + 29), .int (nI n), .ref (B + 30), .ref (B + 31), .ref (B + 32), .int (nI nL), .ref (B + 33), .ref (B + 34), .ref (B + 35), .ref (B + 36), .int (nI nS), .ref (B + 37), .ref (B + 38), .int (nI nC), .ref (B + 39), .ref (B + 40), .ref (B + 41), .int (nI nW), .ref (B + 42), .int h9, .ref (B + 43), .int (nI nM), .ref (B + 44), .ref (B + 45), .ref (B + 46)])) := f49
              have q27 : w48 27 = some (kl_aI G 4 ((fun t => nI (cn t)))) := (fr50 _ (by decide)).trans q27
              have f41 : w48 28 = some (kl_aI G 24 O2) := (fr50 _ (by decide)).trans f41
              have f42 : w48 29 = some (kl_aI G 96 D2) := (fr50 _ (by decide)).trans f42
              have f15 : w48 30 = some (kl_aI G 24 sO) := (fr50 _ (by decide)).trans f15
              have f16 : w48 31 = some (kl_aI G 96 sD) := (fr50 _ (by decide)).trans f16
              have f17 : w48 32 = some (kl_aZ G 24 sG) := (fr50 _ (by decide)).trans f17
              have q33 : w48 33 = some (kl_aI G 7 lch) := (fr50 _ (by decide)).trans q33
              have q34 : w48 34 = some (kl_aI G 7 ((fun t => nI (lco t)))) := (fr50 _ (by decide)).trans q34
              have q35 : w48 35 = some (kl_aI G 7 lpa) := (fr50 _ (by decide)).trans q35
              have q36 : w48 36 = some (kl_aI G 7 lwy) := (fr50 _ (by decide)).trans q36
              have q37 : w48 37 = some (kl_aI G 5 stb) := (fr50 _ (by decide)).trans q37
              have q38 : w48 38 = some (kl_aI G 5 ((fun t => nI (sco t)))) := (fr50 _ (by decide)).trans q38
              have q39 : w48 39 = some (kl_aI G 5 ctb) := (fr50 _ (by decide)).trans q39
              have q40 : w48 40 = some (kl_aI G 5 ((fun t => nI (cln t)))) := (fr50 _ (by decide)).trans q40
              have q41 : w48 41 = some (kl_aI G 50 ((fun t => nI (cw t)))) := (fr50 _ (by decide)).trans q41
              have f43 : w48 43 = some (kl_aI G 12 p9) := (fr50 _ (by decide)).trans f43
              have frm : ∀ j : Nat, j ≠ 26 → j ≠ 28 → j ≠ 29 → j ≠ 30 → j ≠ 31 → j ≠ 32 → j ≠ 43 → w48 j = w j := fun j k0 k1 k2 k3 k4 k5 k6 => (fr50 j k0).trans (frm j k0 k1 k2 k3 k4 k5 k6)
              exact kl_vret hx hb hr hlocks hP (Or.inr (Or.inr (Or.inr (⟨hok, by omega, tj, htj, rfl, y2, hy0, hsw, ⟨_, _, f49⟩, ⟨⟨_, _, f41, f42, fun q hq => (hO2 q hq).trans (hsO q hq), fun q hq => (hD2 q hq).trans (hsD q hq)⟩, ⟨_, _, _, _, f15, f16, f17, f43⟩⟩, frm⟩)))) dX5_insert_160
          · refine lv_iload hx hb dX5_insert_133 (lv_at hl 5 rfl) ?_
            refine lv_goto (tgt := 139) hx hb dX5_insert_135 (by decide) ?_
            refine kl_iast hx hb hK hP f29 (by omega) (by omega) dX5_insert_139 (fun w51 H locs f52 fr53 hzw51 hP => ?_)
            have f14 : w51 26 = some (.inr (5, [.int (nI 0), .int rs, .int (nI nT), .ref (B + 27), .int (nI n), .ref (B + 28), .ref (B + 29), .int (nI n), .ref (B + 30), .ref (B + 31), .ref (B + 32), .int (nI nL), .ref (B + 33), .ref (B + 34), .ref (B + 35), .ref (B + 36), .int (nI nS), .ref (B + 37), .ref (B + 38), .int (nI nC), .ref (B + 39), .ref (B + 40), .ref (B + 41), .int (nI nW), .ref (B + 42), .int hi, .ref (B + 43), .int (nI nM), .ref (B + 44), .ref (B + 45), .ref (B + 46)])) := (fr53 _ (by decide)).trans f14
            have q27 : w51 27 = some (kl_aI G 4 ((fun t => nI (cn t)))) := (fr53 _ (by decide)).trans q27
            have f20 : w51 28 = some (kl_aI G 24 (upd O n (nI tj))) := (fr53 _ (by decide)).trans f20
            have f15 : w51 30 = some (kl_aI G 24 sO) := (fr53 _ (by decide)).trans f15
            have f16 : w51 31 = some (kl_aI G 96 sD) := (fr53 _ (by decide)).trans f16
            have f17 : w51 32 = some (kl_aZ G 24 sG) := (fr53 _ (by decide)).trans f17
            have q33 : w51 33 = some (kl_aI G 7 lch) := (fr53 _ (by decide)).trans q33
            have q34 : w51 34 = some (kl_aI G 7 ((fun t => nI (lco t)))) := (fr53 _ (by decide)).trans q34
            have q35 : w51 35 = some (kl_aI G 7 lpa) := (fr53 _ (by decide)).trans q35
            have q36 : w51 36 = some (kl_aI G 7 lwy) := (fr53 _ (by decide)).trans q36
            have q37 : w51 37 = some (kl_aI G 5 stb) := (fr53 _ (by decide)).trans q37
            have q38 : w51 38 = some (kl_aI G 5 ((fun t => nI (sco t)))) := (fr53 _ (by decide)).trans q38
            have q39 : w51 39 = some (kl_aI G 5 ctb) := (fr53 _ (by decide)).trans q39
            have q40 : w51 40 = some (kl_aI G 5 ((fun t => nI (cln t)))) := (fr53 _ (by decide)).trans q40
            have q41 : w51 41 = some (kl_aI G 50 ((fun t => nI (cw t)))) := (fr53 _ (by decide)).trans q41
            have q43 : w51 43 = some (kl_aI G 12 pl) := (fr53 _ (by decide)).trans q43
            have frm : ∀ j : Nat, j ≠ 26 → j ≠ 28 → j ≠ 29 → j ≠ 30 → j ≠ 31 → j ≠ 32 → j ≠ 43 → w51 j = w j := fun j k0 k1 k2 k3 k4 k5 k6 => (fr53 j k2).trans (frm j k0 k1 k2 k3 k4 k5 k6)
            have hmi : upd (upd (upd (upd D (4 * n) a) (4 * n + 1) b) (4 * n + 2) (nI 0)) (4 * n + 3) d = md_ins D n (cn tj) a b c d := by unfold md_ins; rw [if_neg (by omega), if_pos (by omega)]
            rw [hmi] at f52
            refine lv_aload_n hx hb dX5_insert_140 rfl (lv_at hl 0 rfl) ?_
            refine lv_dup hx hb dX5_insert_141 rfl ?_
            refine kl_get (C := RX5) (T := TX5) (N := 31) (ci := 5) hx hb hts hinX5 hown hK hP f14 rfl 4 (by decide) (hts (.fieldLink RX5 82 "KinLedgerModel" "rows" "I") (by decide +kernel)) (fun _ h9 => h9) rfl dX5_insert_142 ?_
            refine lv_iconst (v := nI 1) hx hb dX5_insert_145 (by decide) ?_
            refine lv_iadd hx hb dX5_insert_146 ?_
            refine kl_top (z := nI (n + 1)) (by first | exact nI_add _ _ | (rw [nI_add]; first | rfl | (congr 1; omega))) ?_
            refine kl_put (C := RX5) (T := TX5) (N := 31) (ci := 5) (v := .int (nI (n + 1))) (ty := .int) hx hb hts hinX5 tyX5 tyX5_ok nmX5 hown hK hP f14 rfl 4 (by decide) (hts (.fieldLink RX5 82 "KinLedgerModel" "rows" "I") (by decide +kernel)) (fun _ h9 => h9) rfl (by decide +kernel) rfl rfl (Nat.le_of_ble_eq_true rfl) dX5_insert_147 (fun w54 H locs f55 fr56 hzw54 hP => ?_)
            have f55 : w54 26 = some (.inr (5, [.int (nI 0), .int rs, .int (nI nT), .ref (B + 27), .int (nI (n + 1)), .ref (B + 28), .ref (B + 29), .int (nI n), .ref (B + 30), .ref (B + 31), .ref (B + 32), .int (nI nL), .ref (B + 33), .ref (B + 34), .ref (B + 35), .ref (B + 36), .int (nI nS), .ref (B + 37), .ref (B + 38), .int (nI nC), .ref (B + 39), .ref (B + 40), .ref (B + 41), .int (nI nW), .ref (B + 42), .int hi, .ref (B + 43), .int (nI nM), .ref (B + 44), .ref (B + 45), .ref (B + 46)])) := f55
            have q27 : w54 27 = some (kl_aI G 4 ((fun t => nI (cn t)))) := (fr56 _ (by decide)).trans q27
            have f20 : w54 28 = some (kl_aI G 24 (upd O n (nI tj))) := (fr56 _ (by decide)).trans f20
            have f52 : w54 29 = some (kl_aI G 96 ((md_ins D n (cn tj) a b c d))) := (fr56 _ (by decide)).trans f52
            have f15 : w54 30 = some (kl_aI G 24 sO) := (fr56 _ (by decide)).trans f15
            have f16 : w54 31 = some (kl_aI G 96 sD) := (fr56 _ (by decide)).trans f16
            have f17 : w54 32 = some (kl_aZ G 24 sG) := (fr56 _ (by decide)).trans f17
            have q33 : w54 33 = some (kl_aI G 7 lch) := (fr56 _ (by decide)).trans q33
            have q34 : w54 34 = some (kl_aI G 7 ((fun t => nI (lco t)))) := (fr56 _ (by decide)).trans q34
            have q35 : w54 35 = some (kl_aI G 7 lpa) := (fr56 _ (by decide)).trans q35
            have q36 : w54 36 = some (kl_aI G 7 lwy) := (fr56 _ (by decide)).trans q36
            have q37 : w54 37 = some (kl_aI G 5 stb) := (fr56 _ (by decide)).trans q37
            have q38 : w54 38 = some (kl_aI G 5 ((fun t => nI (sco t)))) := (fr56 _ (by decide)).trans q38
            have q39 : w54 39 = some (kl_aI G 5 ctb) := (fr56 _ (by decide)).trans q39
            have q40 : w54 40 = some (kl_aI G 5 ((fun t => nI (cln t)))) := (fr56 _ (by decide)).trans q40
            have q41 : w54 41 = some (kl_aI G 50 ((fun t => nI (cw t)))) := (fr56 _ (by decide)).trans q41
            have q43 : w54 43 = some (kl_aI G 12 pl) := (fr56 _ (by decide)).trans q43
            have frm : ∀ j : Nat, j ≠ 26 → j ≠ 28 → j ≠ 29 → j ≠ 30 → j ≠ 31 → j ≠ 32 → j ≠ 43 → w54 j = w j := fun j k0 k1 k2 k3 k4 k5 k6 => (fr56 j k0).trans (frm j k0 k1 k2 k3 k4 k5 k6)
            refine lv_aload_n hx hb dX5_insert_150 rfl (lv_at hl 0 rfl) ?_
            refine lv_aload_n hx hb dX5_insert_151 rfl (lv_at hl 0 rfl) ?_
            refine lv_iconst (v := nI 0) hx hb dX5_insert_152 (by decide) ?_
            refine lv_iconst (v := nI 3) hx hb dX5_insert_153 (by decide) ?_
            refine kl_cVi (C := RX5) (i := 26) (As := [.int (nI 0), .int (nI 3)]) (rest := [.ref (B + 26)]) ⟨hx, hb, hml, hown, hts⟩ (c_X5_settle l G B _ ccol 0 3 f55 f20 f52 f15 f16 q33 q34 q35 q36 q37 q38 q39 q40 q41 q43 ⟨by omega, by omega, by omega, by omega, by omega⟩ hrp (by omega) (by omega) (by omega)) (cwV 2 hts gX5_insert_X5_settle rfl rfl rfl (by decide +kernel) ⟨Nat.le_of_ble_eq_true rfl, Nat.le_of_ble_eq_true rfl⟩) hK hP f55 rfl rfl hl.1 rfl (Nat.le_of_ble_eq_true rfl) dX5_insert_154 ⟨Nat.le_of_ble_eq_true rfl, Nat.le_of_ble_eq_true rfl⟩ (fun r59 w57 H locs q58 hP => ?_)
            rcases q58 with ⟨hsw, rfl, ⟨h9, f60⟩, f61, f62, ⟨p9, f63⟩, fr64⟩ | ⟨y2, hy0, hsw, rfl, ⟨h9, f60⟩, ⟨O2, D2, f61, f62, hO2, hD2⟩, ⟨p9, f63⟩, fr64⟩
            · have q27 : w57 27 = some (kl_aI G 4 ((fun t => nI (cn t)))) := (fr64 _ (by decide) (by decide) (by decide) (by decide)).trans q27
              have f15 : w57 30 = some (kl_aI G 24 sO) := (fr64 _ (by decide) (by decide) (by decide) (by decide)).trans f15
              have f16 : w57 31 = some (kl_aI G 96 sD) := (fr64 _ (by decide) (by decide) (by decide) (by decide)).trans f16
              have f17 : w57 32 = some (kl_aZ G 24 sG) := (fr64 _ (by decide) (by decide) (by decide) (by decide)).trans f17
              have q33 : w57 33 = some (kl_aI G 7 lch) := (fr64 _ (by decide) (by decide) (by decide) (by decide)).trans q33
              have q34 : w57 34 = some (kl_aI G 7 ((fun t => nI (lco t)))) := (fr64 _ (by decide) (by decide) (by decide) (by decide)).trans q34
              have q35 : w57 35 = some (kl_aI G 7 lpa) := (fr64 _ (by decide) (by decide) (by decide) (by decide)).trans q35
              have q36 : w57 36 = some (kl_aI G 7 lwy) := (fr64 _ (by decide) (by decide) (by decide) (by decide)).trans q36
              have q37 : w57 37 = some (kl_aI G 5 stb) := (fr64 _ (by decide) (by decide) (by decide) (by decide)).trans q37
              have q38 : w57 38 = some (kl_aI G 5 ((fun t => nI (sco t)))) := (fr64 _ (by decide) (by decide) (by decide) (by decide)).trans q38
              have q39 : w57 39 = some (kl_aI G 5 ctb) := (fr64 _ (by decide) (by decide) (by decide) (by decide)).trans q39
              have q40 : w57 40 = some (kl_aI G 5 ((fun t => nI (cln t)))) := (fr64 _ (by decide) (by decide) (by decide) (by decide)).trans q40
              have q41 : w57 41 = some (kl_aI G 50 ((fun t => nI (cw t)))) := (fr64 _ (by decide) (by decide) (by decide) (by decide)).trans q41
              have f60 : w57 26 = some (.inr (5, [.int (nI 0), .int rs, .int (nI nT), .ref (B + 27), .int (nI (n + 1)), .ref (B + 28), .ref (B + 29), .int (nI n), .ref (B + 30), .ref (B + 31), .ref (B + 32), .int (nI nL), .ref (B + 33), .ref (B + 34), .ref (B + 35), .ref (B + 36), .int (nI nS), .ref (B + 37), .ref (B + 38), .int (nI nC), .ref (B + 39), .ref (B + 40), .ref (B + 41), .int (nI nW), .ref (B + 42), .int h9, .ref (B + 43), .int (nI nM), .ref (B + 44), .ref (B + 45), .ref (B + 46)])) := f60
              have f61 : w57 28 = some (kl_aI G 24 (upd O n (nI tj))) := f61
              have f62 : w57 29 = some (kl_aI G 96 ((md_ins D n (cn tj) a b c d))) := f62
              have f63 : w57 43 = some (kl_aI G 12 p9) := f63
              have frm : ∀ j : Nat, j ≠ 26 → j ≠ 28 → j ≠ 29 → j ≠ 30 → j ≠ 31 → j ≠ 32 → j ≠ 43 → w57 j = w j := fun j k0 k1 k2 k3 k4 k5 k6 => (fr64 j k0 k1 k2 k6).trans (frm j k0 k1 k2 k3 k4 k5 k6)
              refine kl_put (C := RX5) (T := TX5) (N := 31) (ci := 5) (v := .int (nI 0)) (ty := .int) hx hb hts hinX5 tyX5 tyX5_ok nmX5 hown hK hP f60 rfl 0 (by decide) (hts (.fieldLink RX5 71 "KinLedgerModel" "code" "I") (by decide +kernel)) (fun _ h9 => h9) rfl (by decide +kernel) rfl rfl (Nat.le_of_ble_eq_true rfl) dX5_insert_157 (fun w65 H locs f66 fr67 hzw65 hP => ?_)
              have f66 : w65 26 = some (.inr (5, [.int (nI 0), .int rs, .int (nI nT), .ref (B + 27), .int (nI (n + 1)), .ref (B + 28), .ref (B + 29), .int (nI n), .ref (B + 30), .ref (B + 31), .ref (B + 32), .int (nI nL), .ref (B + 33), .ref (B + 34), .ref (B + 35), .ref (B + 36), .int (nI nS), .ref (B + 37), .ref (B + 38), .int (nI nC), .ref (B + 39), .ref (B + 40), .ref (B + 41), .int (nI nW), .ref (B + 42), .int h9, .ref (B + 43), .int (nI nM), .ref (B + 44), .ref (B + 45), .ref (B + 46)])) := f66
              have q27 : w65 27 = some (kl_aI G 4 ((fun t => nI (cn t)))) := (fr67 _ (by decide)).trans q27
              have f61 : w65 28 = some (kl_aI G 24 (upd O n (nI tj))) := (fr67 _ (by decide)).trans f61
              have f62 : w65 29 = some (kl_aI G 96 ((md_ins D n (cn tj) a b c d))) := (fr67 _ (by decide)).trans f62
              have f15 : w65 30 = some (kl_aI G 24 sO) := (fr67 _ (by decide)).trans f15
              have f16 : w65 31 = some (kl_aI G 96 sD) := (fr67 _ (by decide)).trans f16
              have f17 : w65 32 = some (kl_aZ G 24 sG) := (fr67 _ (by decide)).trans f17
              have q33 : w65 33 = some (kl_aI G 7 lch) := (fr67 _ (by decide)).trans q33
              have q34 : w65 34 = some (kl_aI G 7 ((fun t => nI (lco t)))) := (fr67 _ (by decide)).trans q34
              have q35 : w65 35 = some (kl_aI G 7 lpa) := (fr67 _ (by decide)).trans q35
              have q36 : w65 36 = some (kl_aI G 7 lwy) := (fr67 _ (by decide)).trans q36
              have q37 : w65 37 = some (kl_aI G 5 stb) := (fr67 _ (by decide)).trans q37
              have q38 : w65 38 = some (kl_aI G 5 ((fun t => nI (sco t)))) := (fr67 _ (by decide)).trans q38
              have q39 : w65 39 = some (kl_aI G 5 ctb) := (fr67 _ (by decide)).trans q39
              have q40 : w65 40 = some (kl_aI G 5 ((fun t => nI (cln t)))) := (fr67 _ (by decide)).trans q40
              have q41 : w65 41 = some (kl_aI G 50 ((fun t => nI (cw t)))) := (fr67 _ (by decide)).trans q41
              have f63 : w65 43 = some (kl_aI G 12 p9) := (fr67 _ (by decide)).trans f63
              have frm : ∀ j : Nat, j ≠ 26 → j ≠ 28 → j ≠ 29 → j ≠ 30 → j ≠ 31 → j ≠ 32 → j ≠ 43 → w65 j = w j := fun j k0 k1 k2 k3 k4 k5 k6 => (fr67 j k0).trans (frm j k0 k1 k2 k3 k4 k5 k6)
              exact kl_vret hx hb hr hlocks hP (Or.inr (Or.inr (Or.inl (⟨hok, by omega, tj, htj, rfl, hsw, ⟨_, _, f66⟩, f61, f62, ⟨_, _, _, _, f15, f16, f17, f63⟩, frm⟩)))) dX5_insert_160
            · have q27 : w57 27 = some (kl_aI G 4 ((fun t => nI (cn t)))) := (fr64 _ (by decide) (by decide) (by decide) (by decide)).trans q27
              have f15 : w57 30 = some (kl_aI G 24 sO) := (fr64 _ (by decide) (by decide) (by decide) (by decide)).trans f15
              have f16 : w57 31 = some (kl_aI G 96 sD) := (fr64 _ (by decide) (by decide) (by decide) (by decide)).trans f16
              have f17 : w57 32 = some (kl_aZ G 24 sG) := (fr64 _ (by decide) (by decide) (by decide) (by decide)).trans f17
              have q33 : w57 33 = some (kl_aI G 7 lch) := (fr64 _ (by decide) (by decide) (by decide) (by decide)).trans q33
              have q34 : w57 34 = some (kl_aI G 7 ((fun t => nI (lco t)))) := (fr64 _ (by decide) (by decide) (by decide) (by decide)).trans q34
              have q35 : w57 35 = some (kl_aI G 7 lpa) := (fr64 _ (by decide) (by decide) (by decide) (by decide)).trans q35
              have q36 : w57 36 = some (kl_aI G 7 lwy) := (fr64 _ (by decide) (by decide) (by decide) (by decide)).trans q36
              have q37 : w57 37 = some (kl_aI G 5 stb) := (fr64 _ (by decide) (by decide) (by decide) (by decide)).trans q37
              have q38 : w57 38 = some (kl_aI G 5 ((fun t => nI (sco t)))) := (fr64 _ (by decide) (by decide) (by decide) (by decide)).trans q38
              have q39 : w57 39 = some (kl_aI G 5 ctb) := (fr64 _ (by decide) (by decide) (by decide) (by decide)).trans q39
              have q40 : w57 40 = some (kl_aI G 5 ((fun t => nI (cln t)))) := (fr64 _ (by decide) (by decide) (by decide) (by decide)).trans q40
              have q41 : w57 41 = some (kl_aI G 50 ((fun t => nI (cw t)))) := (fr64 _ (by decide) (by decide) (by decide) (by decide)).trans q41
              have f60 : w57 26 = some (.inr (5, [.int (nI 0), .int y2, .int (nI nT), .ref (B + 27), .int (nI n), .ref (B + 28), .ref (B + 29), .int (nI n), .ref (B + 30), .ref (B + 31), .ref (B + 32), .int (nI nL), .ref (B + 33), .ref (B + 34), .ref (B + 35), .ref (B + 36), .int (nI nS), .ref (B + 37), .ref (B + 38), .int (nI nC), .ref (B + 39), .ref (B + 40), .ref (B + 41), .int (nI nW), .ref (B + 42), .int h9, .ref (B + 43), .int (nI nM), .ref (B + 44), .ref (B + 45), .ref (B + 46)])) := f60
              have f61 : w57 28 = some (kl_aI G 24 O2) := f61
              have f62 : w57 29 = some (kl_aI G 96 D2) := f62
              have f63 : w57 43 = some (kl_aI G 12 p9) := f63
              have frm : ∀ j : Nat, j ≠ 26 → j ≠ 28 → j ≠ 29 → j ≠ 30 → j ≠ 31 → j ≠ 32 → j ≠ 43 → w57 j = w j := fun j k0 k1 k2 k3 k4 k5 k6 => (fr64 j k0 k1 k2 k6).trans (frm j k0 k1 k2 k3 k4 k5 k6)
              refine kl_put (C := RX5) (T := TX5) (N := 31) (ci := 5) (v := .int (nI 3)) (ty := .int) hx hb hts hinX5 tyX5 tyX5_ok nmX5 hown hK hP f60 rfl 0 (by decide) (hts (.fieldLink RX5 71 "KinLedgerModel" "code" "I") (by decide +kernel)) (fun _ h9 => h9) rfl (by decide +kernel) rfl rfl (Nat.le_of_ble_eq_true rfl) dX5_insert_157 (fun w68 H locs f69 fr70 hzw68 hP => ?_)
              have f69 : w68 26 = some (.inr (5, [.int (nI 3), .int y2, .int (nI nT), .ref (B + 27), .int (nI n), .ref (B + 28), .ref (B + 29), .int (nI n), .ref (B + 30), .ref (B + 31), .ref (B + 32), .int (nI nL), .ref (B + 33), .ref (B + 34), .ref (B + 35), .ref (B + 36), .int (nI nS), .ref (B + 37), .ref (B + 38), .int (nI nC), .ref (B + 39), .ref (B + 40), .ref (B + 41), .int (nI nW), .ref (B + 42), .int h9, .ref (B + 43), .int (nI nM), .ref (B + 44), .ref (B + 45), .ref (B + 46)])) := f69
              have q27 : w68 27 = some (kl_aI G 4 ((fun t => nI (cn t)))) := (fr70 _ (by decide)).trans q27
              have f61 : w68 28 = some (kl_aI G 24 O2) := (fr70 _ (by decide)).trans f61
              have f62 : w68 29 = some (kl_aI G 96 D2) := (fr70 _ (by decide)).trans f62
              have f15 : w68 30 = some (kl_aI G 24 sO) := (fr70 _ (by decide)).trans f15
              have f16 : w68 31 = some (kl_aI G 96 sD) := (fr70 _ (by decide)).trans f16
              have f17 : w68 32 = some (kl_aZ G 24 sG) := (fr70 _ (by decide)).trans f17
              have q33 : w68 33 = some (kl_aI G 7 lch) := (fr70 _ (by decide)).trans q33
              have q34 : w68 34 = some (kl_aI G 7 ((fun t => nI (lco t)))) := (fr70 _ (by decide)).trans q34
              have q35 : w68 35 = some (kl_aI G 7 lpa) := (fr70 _ (by decide)).trans q35
              have q36 : w68 36 = some (kl_aI G 7 lwy) := (fr70 _ (by decide)).trans q36
              have q37 : w68 37 = some (kl_aI G 5 stb) := (fr70 _ (by decide)).trans q37
              have q38 : w68 38 = some (kl_aI G 5 ((fun t => nI (sco t)))) := (fr70 _ (by decide)).trans q38
              have q39 : w68 39 = some (kl_aI G 5 ctb) := (fr70 _ (by decide)).trans q39
              have q40 : w68 40 = some (kl_aI G 5 ((fun t => nI (cln t)))) := (fr70 _ (by decide)).trans q40
              have q41 : w68 41 = some (kl_aI G 50 ((fun t => nI (cw t)))) := (fr70 _ (by decide)).trans q41
              have f63 : w68 43 = some (kl_aI G 12 p9) := (fr70 _ (by decide)).trans f63
              have frm : ∀ j : Nat, j ≠ 26 → j ≠ 28 → j ≠ 29 → j ≠ 30 → j ≠ 31 → j ≠ 32 → j ≠ 43 → w68 j = w j := fun j k0 k1 k2 k3 k4 k5 k6 => (fr70 j k0).trans (frm j k0 k1 k2 k3 k4 k5 k6)
              exact kl_vret hx hb hr hlocks hP (Or.inr (Or.inr (Or.inr (⟨hok, by omega, tj, htj, rfl, y2, hy0, hsw, ⟨_, _, f69⟩, ⟨⟨_, _, f61, f62, fun q hq => (hO2 q hq).trans (hsO q hq), fun q hq => (hD2 q hq).trans (hsD q hq)⟩, ⟨_, _, _, _, f15, f16, f17, f63⟩⟩, frm⟩)))) dX5_insert_160
        · refine lv_iload hx hb dX5_insert_104 (lv_at hl 4 rfl) ?_
          refine lv_goto (tgt := 110) hx hb dX5_insert_106 (by decide) ?_
          refine kl_iast hx hb hK hP f26 (by omega) (by omega) dX5_insert_110 (fun w71 H locs f72 fr73 hzw71 hP => ?_)
          have f14 : w71 26 = some (.inr (5, [.int (nI 0), .int rs, .int (nI nT), .ref (B + 27), .int (nI n), .ref (B + 28), .ref (B + 29), .int (nI n), .ref (B + 30), .ref (B + 31), .ref (B + 32), .int (nI nL), .ref (B + 33), .ref (B + 34), .ref (B + 35), .ref (B + 36), .int (nI nS), .ref (B + 37), .ref (B + 38), .int (nI nC), .ref (B + 39), .ref (B + 40), .ref (B + 41), .int (nI nW), .ref (B + 42), .int hi, .ref (B + 43), .int (nI nM), .ref (B + 44), .ref (B + 45), .ref (B + 46)])) := (fr73 _ (by decide)).trans f14
          have q27 : w71 27 = some (kl_aI G 4 ((fun t => nI (cn t)))) := (fr73 _ (by decide)).trans q27
          have f20 : w71 28 = some (kl_aI G 24 (upd O n (nI tj))) := (fr73 _ (by decide)).trans f20
          have f15 : w71 30 = some (kl_aI G 24 sO) := (fr73 _ (by decide)).trans f15
          have f16 : w71 31 = some (kl_aI G 96 sD) := (fr73 _ (by decide)).trans f16
          have f17 : w71 32 = some (kl_aZ G 24 sG) := (fr73 _ (by decide)).trans f17
          have q33 : w71 33 = some (kl_aI G 7 lch) := (fr73 _ (by decide)).trans q33
          have q34 : w71 34 = some (kl_aI G 7 ((fun t => nI (lco t)))) := (fr73 _ (by decide)).trans q34
          have q35 : w71 35 = some (kl_aI G 7 lpa) := (fr73 _ (by decide)).trans q35
          have q36 : w71 36 = some (kl_aI G 7 lwy) := (fr73 _ (by decide)).trans q36
          have q37 : w71 37 = some (kl_aI G 5 stb) := (fr73 _ (by decide)).trans q37
          have q38 : w71 38 = some (kl_aI G 5 ((fun t => nI (sco t)))) := (fr73 _ (by decide)).trans q38
          have q39 : w71 39 = some (kl_aI G 5 ctb) := (fr73 _ (by decide)).trans q39
          have q40 : w71 40 = some (kl_aI G 5 ((fun t => nI (cln t)))) := (fr73 _ (by decide)).trans q40
          have q41 : w71 41 = some (kl_aI G 50 ((fun t => nI (cw t)))) := (fr73 _ (by decide)).trans q41
          have q43 : w71 43 = some (kl_aI G 12 pl) := (fr73 _ (by decide)).trans q43
          have frm : ∀ j : Nat, j ≠ 26 → j ≠ 28 → j ≠ 29 → j ≠ 30 → j ≠ 31 → j ≠ 32 → j ≠ 43 → w71 j = w j := fun j k0 k1 k2 k3 k4 k5 k6 => (fr73 j k2).trans (frm j k0 k1 k2 k3 k4 k5 k6)
          refine lv_aload_n hx hb dX5_insert_111 rfl (lv_at hl 0 rfl) ?_
          refine kl_get (C := RX5) (T := TX5) (N := 31) (ci := 5) hx hb hts hinX5 hown hK hP f14 rfl 6 (by decide) (hts (.fieldLink RX5 16 "KinLedgerModel" "cells" "[I") (by decide +kernel)) (fun _ h9 => h9) rfl dX5_insert_112 ?_
          refine lv_iconst (v := nI 4) hx hb dX5_insert_115 (by decide) ?_
          refine lv_aload_n hx hb dX5_insert_116 rfl (lv_at hl 0 rfl) ?_
          refine kl_get (C := RX5) (T := TX5) (N := 31) (ci := 5) hx hb hts hinX5 hown hK hP f14 rfl 4 (by decide) (hts (.fieldLink RX5 82 "KinLedgerModel" "rows" "I") (by decide +kernel)) (fun _ h9 => h9) rfl dX5_insert_117 ?_
          refine lv_imul hx hb dX5_insert_120 ?_
          refine kl_top (z := nI (4 * n)) (pk_mul _ _) ?_
          refine lv_iconst (v := nI 3) hx hb dX5_insert_121 (by decide) ?_
          refine lv_iadd hx hb dX5_insert_122 ?_
          refine kl_top (z := nI (4 * n + 3)) (by first | exact nI_add _ _ | (rw [nI_add]; first | rfl | (congr 1; omega))) ?_
          refine lv_aload_n hx hb dX5_insert_123 rfl (lv_at hl 0 rfl) ?_
          refine kl_get (C := RX5) (T := TX5) (N := 31) (ci := 5) hx hb hts hinX5 hown hK hP f14 rfl 3 (by decide) (hts (.fieldLink RX5 7 "KinLedgerModel" "columns" "[I") (by decide +kernel)) (fun _ h9 => h9) rfl dX5_insert_124 ?_
          refine lv_iload_n hx hb dX5_insert_127 rfl (lv_at hl 1 rfl) ?_
          refine kl_iald hx hb hK hP q27 (by omega) (by omega) dX5_insert_128 ?_
          refine kl_top (z := nI (cn tj)) rfl ?_
          refine lv_iconst (v := nI 3) hx hb dX5_insert_129 (by decide) ?_
          refine kl_le (tgt := 138) hx hb (by omega) (by omega) dX5_insert_130 (by decide) (fun c130 => ?_) (fun c130 => ?_)
          · refine lv_iconst (v := nI 0) hx hb dX5_insert_138 (by decide) ?_
            refine kl_iast hx hb hK hP f72 (by omega) (by omega) dX5_insert_139 (fun w74 H locs f75 fr76 hzw74 hP => ?_)
            have f14 : w74 26 = some (.inr (5, [.int (nI 0), .int rs, .int (nI nT), .ref (B + 27), .int (nI n), .ref (B + 28), .ref (B + 29), .int (nI n), .ref (B + 30), .ref (B + 31), .ref (B + 32), .int (nI nL), .ref (B + 33), .ref (B + 34), .ref (B + 35), .ref (B + 36), .int (nI nS), .ref (B + 37), .ref (B + 38), .int (nI nC), .ref (B + 39), .ref (B + 40), .ref (B + 41), .int (nI nW), .ref (B + 42), .int hi, .ref (B + 43), .int (nI nM), .ref (B + 44), .ref (B + 45), .ref (B + 46)])) := (fr76 _ (by decide)).trans f14
            have q27 : w74 27 = some (kl_aI G 4 ((fun t => nI (cn t)))) := (fr76 _ (by decide)).trans q27
            have f20 : w74 28 = some (kl_aI G 24 (upd O n (nI tj))) := (fr76 _ (by decide)).trans f20
            have f15 : w74 30 = some (kl_aI G 24 sO) := (fr76 _ (by decide)).trans f15
            have f16 : w74 31 = some (kl_aI G 96 sD) := (fr76 _ (by decide)).trans f16
            have f17 : w74 32 = some (kl_aZ G 24 sG) := (fr76 _ (by decide)).trans f17
            have q33 : w74 33 = some (kl_aI G 7 lch) := (fr76 _ (by decide)).trans q33
            have q34 : w74 34 = some (kl_aI G 7 ((fun t => nI (lco t)))) := (fr76 _ (by decide)).trans q34
            have q35 : w74 35 = some (kl_aI G 7 lpa) := (fr76 _ (by decide)).trans q35
            have q36 : w74 36 = some (kl_aI G 7 lwy) := (fr76 _ (by decide)).trans q36
            have q37 : w74 37 = some (kl_aI G 5 stb) := (fr76 _ (by decide)).trans q37
            have q38 : w74 38 = some (kl_aI G 5 ((fun t => nI (sco t)))) := (fr76 _ (by decide)).trans q38
            have q39 : w74 39 = some (kl_aI G 5 ctb) := (fr76 _ (by decide)).trans q39
            have q40 : w74 40 = some (kl_aI G 5 ((fun t => nI (cln t)))) := (fr76 _ (by decide)).trans q40
            have q41 : w74 41 = some (kl_aI G 50 ((fun t => nI (cw t)))) := (fr76 _ (by decide)).trans q41
            have q43 : w74 43 = some (kl_aI G 12 pl) := (fr76 _ (by decide)).trans q43
            have frm : ∀ j : Nat, j ≠ 26 → j ≠ 28 → j ≠ 29 → j ≠ 30 → j ≠ 31 → j ≠ 32 → j ≠ 43 → w74 j = w j := fun j k0 k1 k2 k3 k4 k5 k6 => (fr76 j k2).trans (frm j k0 k1 k2 k3 k4 k5 k6)
            have hmi : upd (upd (upd (upd D (4 * n) a) (4 * n + 1) b) (4 * n + 2) c) (4 * n + 3) (nI 0) = md_ins D n (cn tj) a b c d := by unfold md_ins; rw [if_pos (by omega), if_neg (by omega)]
            rw [hmi] at f75
            refine lv_aload_n hx hb dX5_insert_140 rfl (lv_at hl 0 rfl) ?_
            refine lv_dup hx hb dX5_insert_141 rfl ?_
            refine kl_get (C := RX5) (T := TX5) (N := 31) (ci := 5) hx hb hts hinX5 hown hK hP f14 rfl 4 (by decide) (hts (.fieldLink RX5 82 "KinLedgerModel" "rows" "I") (by decide +kernel)) (fun _ h9 => h9) rfl dX5_insert_142 ?_
            refine lv_iconst (v := nI 1) hx hb dX5_insert_145 (by decide) ?_
            refine lv_iadd hx hb dX5_insert_146 ?_
            refine kl_top (z := nI (n + 1)) (by first | exact nI_add _ _ | (rw [nI_add]; first | rfl | (congr 1; omega))) ?_
            refine kl_put (C := RX5) (T := TX5) (N := 31) (ci := 5) (v := .int (nI (n + 1))) (ty := .int) hx hb hts hinX5 tyX5 tyX5_ok nmX5 hown hK hP f14 rfl 4 (by decide) (hts (.fieldLink RX5 82 "KinLedgerModel" "rows" "I") (by decide +kernel)) (fun _ h9 => h9) rfl (by decide +kernel) rfl rfl (Nat.le_of_ble_eq_true rfl) dX5_insert_147 (fun w77 H locs f78 fr79 hzw77 hP => ?_)
            have f78 : w77 26 = some (.inr (5, [.int (nI 0), .int rs, .int (nI nT), .ref (B + 27), .int (nI (n + 1)), .ref (B + 28), .ref (B + 29), .int (nI n), .ref (B + 30), .ref (B + 31), .ref (B + 32), .int (nI nL), .ref (B + 33), .ref (B + 34), .ref (B + 35), .ref (B + 36), .int (nI nS), .ref (B + 37), .ref (B + 38), .int (nI nC), .ref (B + 39), .ref (B + 40), .ref (B + 41), .int (nI nW), .ref (B + 42), .int hi, .ref (B + 43), .int (nI nM), .ref (B + 44), .ref (B + 45), .ref (B + 46)])) := f78
            have q27 : w77 27 = some (kl_aI G 4 ((fun t => nI (cn t)))) := (fr79 _ (by decide)).trans q27
            have f20 : w77 28 = some (kl_aI G 24 (upd O n (nI tj))) := (fr79 _ (by decide)).trans f20
            have f75 : w77 29 = some (kl_aI G 96 ((md_ins D n (cn tj) a b c d))) := (fr79 _ (by decide)).trans f75
            have f15 : w77 30 = some (kl_aI G 24 sO) := (fr79 _ (by decide)).trans f15
            have f16 : w77 31 = some (kl_aI G 96 sD) := (fr79 _ (by decide)).trans f16
            have f17 : w77 32 = some (kl_aZ G 24 sG) := (fr79 _ (by decide)).trans f17
            have q33 : w77 33 = some (kl_aI G 7 lch) := (fr79 _ (by decide)).trans q33
            have q34 : w77 34 = some (kl_aI G 7 ((fun t => nI (lco t)))) := (fr79 _ (by decide)).trans q34
            have q35 : w77 35 = some (kl_aI G 7 lpa) := (fr79 _ (by decide)).trans q35
            have q36 : w77 36 = some (kl_aI G 7 lwy) := (fr79 _ (by decide)).trans q36
            have q37 : w77 37 = some (kl_aI G 5 stb) := (fr79 _ (by decide)).trans q37
            have q38 : w77 38 = some (kl_aI G 5 ((fun t => nI (sco t)))) := (fr79 _ (by decide)).trans q38
            have q39 : w77 39 = some (kl_aI G 5 ctb) := (fr79 _ (by decide)).trans q39
            have q40 : w77 40 = some (kl_aI G 5 ((fun t => nI (cln t)))) := (fr79 _ (by decide)).trans q40
            have q41 : w77 41 = some (kl_aI G 50 ((fun t => nI (cw t)))) := (fr79 _ (by decide)).trans q41
            have q43 : w77 43 = some (kl_aI G 12 pl) := (fr79 _ (by decide)).trans q43
            have frm : ∀ j : Nat, j ≠ 26 → j ≠ 28 → j ≠ 29 → j ≠ 30 → j ≠ 31 → j ≠ 32 → j ≠ 43 → w77 j = w j := fun j k0 k1 k2 k3 k4 k5 k6 => (fr79 j k0).trans (frm j k0 k1 k2 k3 k4 k5 k6)
            refine lv_aload_n hx hb dX5_insert_150 rfl (lv_at hl 0 rfl) ?_
            refine lv_aload_n hx hb dX5_insert_151 rfl (lv_at hl 0 rfl) ?_
            refine lv_iconst (v := nI 0) hx hb dX5_insert_152 (by decide) ?_
            refine lv_iconst (v := nI 3) hx hb dX5_insert_153 (by decide) ?_
            refine kl_cVi (C := RX5) (i := 26) (As := [.int (nI 0), .int (nI 3)]) (rest := [.ref (B + 26)]) ⟨hx, hb, hml, hown, hts⟩ (c_X5_settle l G B _ ccol 0 3 f78 f20 f75 f15 f16 q33 q34 q35 q36 q37 q38 q39 q40 q41 q43 ⟨by omega, by omega, by omega, by omega, by omega⟩ hrp (by omega) (by omega) (by omega)) (cwV 2 hts gX5_insert_X5_settle rfl rfl rfl (by decide +kernel) ⟨Nat.le_of_ble_eq_true rfl, Nat.le_of_ble_eq_true rfl⟩) hK hP f78 rfl rfl hl.1 rfl (Nat.le_of_ble_eq_true rfl) dX5_insert_154 ⟨Nat.le_of_ble_eq_true rfl, Nat.le_of_ble_eq_true rfl⟩ (fun r82 w80 H locs q81 hP => ?_)
            rcases q81 with ⟨hsw, rfl, ⟨h9, f83⟩, f84, f85, ⟨p9, f86⟩, fr87⟩ | ⟨y2, hy0, hsw, rfl, ⟨h9, f83⟩, ⟨O2, D2, f84, f85, hO2, hD2⟩, ⟨p9, f86⟩, fr87⟩
            · have q27 : w80 27 = some (kl_aI G 4 ((fun t => nI (cn t)))) := (fr87 _ (by decide) (by decide) (by decide) (by decide)).trans q27
              have f15 : w80 30 = some (kl_aI G 24 sO) := (fr87 _ (by decide) (by decide) (by decide) (by decide)).trans f15
              have f16 : w80 31 = some (kl_aI G 96 sD) := (fr87 _ (by decide) (by decide) (by decide) (by decide)).trans f16
              have f17 : w80 32 = some (kl_aZ G 24 sG) := (fr87 _ (by decide) (by decide) (by decide) (by decide)).trans f17
              have q33 : w80 33 = some (kl_aI G 7 lch) := (fr87 _ (by decide) (by decide) (by decide) (by decide)).trans q33
              have q34 : w80 34 = some (kl_aI G 7 ((fun t => nI (lco t)))) := (fr87 _ (by decide) (by decide) (by decide) (by decide)).trans q34
              have q35 : w80 35 = some (kl_aI G 7 lpa) := (fr87 _ (by decide) (by decide) (by decide) (by decide)).trans q35
              have q36 : w80 36 = some (kl_aI G 7 lwy) := (fr87 _ (by decide) (by decide) (by decide) (by decide)).trans q36
              have q37 : w80 37 = some (kl_aI G 5 stb) := (fr87 _ (by decide) (by decide) (by decide) (by decide)).trans q37
              have q38 : w80 38 = some (kl_aI G 5 ((fun t => nI (sco t)))) := (fr87 _ (by decide) (by decide) (by decide) (by decide)).trans q38
              have q39 : w80 39 = some (kl_aI G 5 ctb) := (fr87 _ (by decide) (by decide) (by decide) (by decide)).trans q39
              have q40 : w80 40 = some (kl_aI G 5 ((fun t => nI (cln t)))) := (fr87 _ (by decide) (by decide) (by decide) (by decide)).trans q40
              have q41 : w80 41 = some (kl_aI G 50 ((fun t => nI (cw t)))) := (fr87 _ (by decide) (by decide) (by decide) (by decide)).trans q41
              have f83 : w80 26 = some (.inr (5, [.int (nI 0), .int rs, .int (nI nT), .ref (B + 27), .int (nI (n + 1)), .ref (B + 28), .ref (B + 29), .int (nI n), .ref (B + 30), .ref (B + 31), .ref (B + 32), .int (nI nL), .ref (B + 33), .ref (B + 34), .ref (B + 35), .ref (B + 36), .int (nI nS), .ref (B + 37), .ref (B + 38), .int (nI nC), .ref (B + 39), .ref (B + 40), .ref (B + 41), .int (nI nW), .ref (B + 42), .int h9, .ref (B + 43), .int (nI nM), .ref (B + 44), .ref (B + 45), .ref (B + 46)])) := f83
              have f84 : w80 28 = some (kl_aI G 24 (upd O n (nI tj))) := f84
              have f85 : w80 29 = some (kl_aI G 96 ((md_ins D n (cn tj) a b c d))) := f85
              have f86 : w80 43 = some (kl_aI G 12 p9) := f86
              have frm : ∀ j : Nat, j ≠ 26 → j ≠ 28 → j ≠ 29 → j ≠ 30 → j ≠ 31 → j ≠ 32 → j ≠ 43 → w80 j = w j := fun j k0 k1 k2 k3 k4 k5 k6 => (fr87 j k0 k1 k2 k6).trans (frm j k0 k1 k2 k3 k4 k5 k6)
              refine kl_put (C := RX5) (T := TX5) (N := 31) (ci := 5) (v := .int (nI 0)) (ty := .int) hx hb hts hinX5 tyX5 tyX5_ok nmX5 hown hK hP f83 rfl 0 (by decide) (hts (.fieldLink RX5 71 "KinLedgerModel" "code" "I") (by decide +kernel)) (fun _ h9 => h9) rfl (by decide +kernel) rfl rfl (Nat.le_of_ble_eq_true rfl) dX5_insert_157 (fun w88 H locs f89 fr90 hzw88 hP => ?_)
              have f89 : w88 26 = some (.inr (5, [.int (nI 0), .int rs, .int (nI nT), .ref (B + 27), .int (nI (n + 1)), .ref (B + 28), .ref (B + 29), .int (nI n), .ref (B + 30), .ref (B + 31), .ref (B + 32), .int (nI nL), .ref (B + 33), .ref (B + 34), .ref (B + 35), .ref (B + 36), .int (nI nS), .ref (B + 37), .ref (B + 38), .int (nI nC), .ref (B + 39), .ref (B + 40), .ref (B + 41), .int (nI nW), .ref (B + 42), .int h9, .ref (B + 43), .int (nI nM), .ref (B + 44), .ref (B + 45), .ref (B + 46)])) := f89
              have q27 : w88 27 = some (kl_aI G 4 ((fun t => nI (cn t)))) := (fr90 _ (by decide)).trans q27
              have f84 : w88 28 = some (kl_aI G 24 (upd O n (nI tj))) := (fr90 _ (by decide)).trans f84
              have f85 : w88 29 = some (kl_aI G 96 ((md_ins D n (cn tj) a b c d))) := (fr90 _ (by decide)).trans f85
              have f15 : w88 30 = some (kl_aI G 24 sO) := (fr90 _ (by decide)).trans f15
              have f16 : w88 31 = some (kl_aI G 96 sD) := (fr90 _ (by decide)).trans f16
              have f17 : w88 32 = some (kl_aZ G 24 sG) := (fr90 _ (by decide)).trans f17
              have q33 : w88 33 = some (kl_aI G 7 lch) := (fr90 _ (by decide)).trans q33
              have q34 : w88 34 = some (kl_aI G 7 ((fun t => nI (lco t)))) := (fr90 _ (by decide)).trans q34
              have q35 : w88 35 = some (kl_aI G 7 lpa) := (fr90 _ (by decide)).trans q35
              have q36 : w88 36 = some (kl_aI G 7 lwy) := (fr90 _ (by decide)).trans q36
              have q37 : w88 37 = some (kl_aI G 5 stb) := (fr90 _ (by decide)).trans q37
              have q38 : w88 38 = some (kl_aI G 5 ((fun t => nI (sco t)))) := (fr90 _ (by decide)).trans q38
              have q39 : w88 39 = some (kl_aI G 5 ctb) := (fr90 _ (by decide)).trans q39
              have q40 : w88 40 = some (kl_aI G 5 ((fun t => nI (cln t)))) := (fr90 _ (by decide)).trans q40
              have q41 : w88 41 = some (kl_aI G 50 ((fun t => nI (cw t)))) := (fr90 _ (by decide)).trans q41
              have f86 : w88 43 = some (kl_aI G 12 p9) := (fr90 _ (by decide)).trans f86
              have frm : ∀ j : Nat, j ≠ 26 → j ≠ 28 → j ≠ 29 → j ≠ 30 → j ≠ 31 → j ≠ 32 → j ≠ 43 → w88 j = w j := fun j k0 k1 k2 k3 k4 k5 k6 => (fr90 j k0).trans (frm j k0 k1 k2 k3 k4 k5 k6)
              exact kl_vret hx hb hr hlocks hP (Or.inr (Or.inr (Or.inl (⟨hok, by omega, tj, htj, rfl, hsw, ⟨_, _, f89⟩, f84, f85, ⟨_, _, _, _, f15, f16, f17, f86⟩, frm⟩)))) dX5_insert_160
            · have q27 : w80 27 = some (kl_aI G 4 ((fun t => nI (cn t)))) := (fr87 _ (by decide) (by decide) (by decide) (by decide)).trans q27
              have f15 : w80 30 = some (kl_aI G 24 sO) := (fr87 _ (by decide) (by decide) (by decide) (by decide)).trans f15
              have f16 : w80 31 = some (kl_aI G 96 sD) := (fr87 _ (by decide) (by decide) (by decide) (by decide)).trans f16
              have f17 : w80 32 = some (kl_aZ G 24 sG) := (fr87 _ (by decide) (by decide) (by decide) (by decide)).trans f17
              have q33 : w80 33 = some (kl_aI G 7 lch) := (fr87 _ (by decide) (by decide) (by decide) (by decide)).trans q33
              have q34 : w80 34 = some (kl_aI G 7 ((fun t => nI (lco t)))) := (fr87 _ (by decide) (by decide) (by decide) (by decide)).trans q34
              have q35 : w80 35 = some (kl_aI G 7 lpa) := (fr87 _ (by decide) (by decide) (by decide) (by decide)).trans q35
              have q36 : w80 36 = some (kl_aI G 7 lwy) := (fr87 _ (by decide) (by decide) (by decide) (by decide)).trans q36
              have q37 : w80 37 = some (kl_aI G 5 stb) := (fr87 _ (by decide) (by decide) (by decide) (by decide)).trans q37
              have q38 : w80 38 = some (kl_aI G 5 ((fun t => nI (sco t)))) := (fr87 _ (by decide) (by decide) (by decide) (by decide)).trans q38
              have q39 : w80 39 = some (kl_aI G 5 ctb) := (fr87 _ (by decide) (by decide) (by decide) (by decide)).trans q39
              have q40 : w80 40 = some (kl_aI G 5 ((fun t => nI (cln t)))) := (fr87 _ (by decide) (by decide) (by decide) (by decide)).trans q40
              have q41 : w80 41 = some (kl_aI G 50 ((fun t => nI (cw t)))) := (fr87 _ (by decide) (by decide) (by decide) (by decide)).trans q41
              have f83 : w80 26 = some (.inr (5, [.int (nI 0), .int y2, .int (nI nT), .ref (B + 27), .int (nI n), .ref (B + 28), .ref (B + 29), .int (nI n), .ref (B + 30), .ref (B + 31), .ref (B + 32), .int (nI nL), .ref (B + 33), .ref (B + 34), .ref (B + 35), .ref (B + 36), .int (nI nS), .ref (B + 37), .ref (B + 38), .int (nI nC), .ref (B + 39), .ref (B + 40), .ref (B + 41), .int (nI nW), .ref (B + 42), .int h9, .ref (B + 43), .int (nI nM), .ref (B + 44), .ref (B + 45), .ref (B + 46)])) := f83
              have f84 : w80 28 = some (kl_aI G 24 O2) := f84
              have f85 : w80 29 = some (kl_aI G 96 D2) := f85
              have f86 : w80 43 = some (kl_aI G 12 p9) := f86
              have frm : ∀ j : Nat, j ≠ 26 → j ≠ 28 → j ≠ 29 → j ≠ 30 → j ≠ 31 → j ≠ 32 → j ≠ 43 → w80 j = w j := fun j k0 k1 k2 k3 k4 k5 k6 => (fr87 j k0 k1 k2 k6).trans (frm j k0 k1 k2 k3 k4 k5 k6)
              refine kl_put (C := RX5) (T := TX5) (N := 31) (ci := 5) (v := .int (nI 3)) (ty := .int) hx hb hts hinX5 tyX5 tyX5_ok nmX5 hown hK hP f83 rfl 0 (by decide) (hts (.fieldLink RX5 71 "KinLedgerModel" "code" "I") (by decide +kernel)) (fun _ h9 => h9) rfl (by decide +kernel) rfl rfl (Nat.le_of_ble_eq_true rfl) dX5_insert_157 (fun w91 H locs f92 fr93 hzw91 hP => ?_)
              have f92 : w91 26 = some (.inr (5, [.int (nI 3), .int y2, .int (nI nT), .ref (B + 27), .int (nI n), .ref (B + 28), .ref (B + 29), .int (nI n), .ref (B + 30), .ref (B + 31), .ref (B + 32), .int (nI nL), .ref (B + 33), .ref (B + 34), .ref (B + 35), .ref (B + 36), .int (nI nS), .ref (B + 37), .ref (B + 38), .int (nI nC), .ref (B + 39), .ref (B + 40), .ref (B + 41), .int (nI nW), .ref (B + 42), .int h9, .ref (B + 43), .int (nI nM), .ref (B + 44), .ref (B + 45), .ref (B + 46)])) := f92
              have q27 : w91 27 = some (kl_aI G 4 ((fun t => nI (cn t)))) := (fr93 _ (by decide)).trans q27
              have f84 : w91 28 = some (kl_aI G 24 O2) := (fr93 _ (by decide)).trans f84
              have f85 : w91 29 = some (kl_aI G 96 D2) := (fr93 _ (by decide)).trans f85
              have f15 : w91 30 = some (kl_aI G 24 sO) := (fr93 _ (by decide)).trans f15
              have f16 : w91 31 = some (kl_aI G 96 sD) := (fr93 _ (by decide)).trans f16
              have f17 : w91 32 = some (kl_aZ G 24 sG) := (fr93 _ (by decide)).trans f17
              have q33 : w91 33 = some (kl_aI G 7 lch) := (fr93 _ (by decide)).trans q33
              have q34 : w91 34 = some (kl_aI G 7 ((fun t => nI (lco t)))) := (fr93 _ (by decide)).trans q34
              have q35 : w91 35 = some (kl_aI G 7 lpa) := (fr93 _ (by decide)).trans q35
              have q36 : w91 36 = some (kl_aI G 7 lwy) := (fr93 _ (by decide)).trans q36
              have q37 : w91 37 = some (kl_aI G 5 stb) := (fr93 _ (by decide)).trans q37
              have q38 : w91 38 = some (kl_aI G 5 ((fun t => nI (sco t)))) := (fr93 _ (by decide)).trans q38
              have q39 : w91 39 = some (kl_aI G 5 ctb) := (fr93 _ (by decide)).trans q39
              have q40 : w91 40 = some (kl_aI G 5 ((fun t => nI (cln t)))) := (fr93 _ (by decide)).trans q40
              have q41 : w91 41 = some (kl_aI G 50 ((fun t => nI (cw t)))) := (fr93 _ (by decide)).trans q41
              have f86 : w91 43 = some (kl_aI G 12 p9) := (fr93 _ (by decide)).trans f86
              have frm : ∀ j : Nat, j ≠ 26 → j ≠ 28 → j ≠ 29 → j ≠ 30 → j ≠ 31 → j ≠ 32 → j ≠ 43 → w91 j = w j := fun j k0 k1 k2 k3 k4 k5 k6 => (fr93 j k0).trans (frm j k0 k1 k2 k3 k4 k5 k6)
              exact kl_vret hx hb hr hlocks hP (Or.inr (Or.inr (Or.inr (⟨hok, by omega, tj, htj, rfl, y2, hy0, hsw, ⟨_, _, f92⟩, ⟨⟨_, _, f84, f85, fun q hq => (hO2 q hq).trans (hsO q hq), fun q hq => (hD2 q hq).trans (hsD q hq)⟩, ⟨_, _, _, _, f15, f16, f17, f86⟩⟩, frm⟩)))) dX5_insert_160
          · refine lv_iload hx hb dX5_insert_133 (lv_at hl 5 rfl) ?_
            refine lv_goto (tgt := 139) hx hb dX5_insert_135 (by decide) ?_
            refine kl_iast hx hb hK hP f72 (by omega) (by omega) dX5_insert_139 (fun w94 H locs f95 fr96 hzw94 hP => ?_)
            have f14 : w94 26 = some (.inr (5, [.int (nI 0), .int rs, .int (nI nT), .ref (B + 27), .int (nI n), .ref (B + 28), .ref (B + 29), .int (nI n), .ref (B + 30), .ref (B + 31), .ref (B + 32), .int (nI nL), .ref (B + 33), .ref (B + 34), .ref (B + 35), .ref (B + 36), .int (nI nS), .ref (B + 37), .ref (B + 38), .int (nI nC), .ref (B + 39), .ref (B + 40), .ref (B + 41), .int (nI nW), .ref (B + 42), .int hi, .ref (B + 43), .int (nI nM), .ref (B + 44), .ref (B + 45), .ref (B + 46)])) := (fr96 _ (by decide)).trans f14
            have q27 : w94 27 = some (kl_aI G 4 ((fun t => nI (cn t)))) := (fr96 _ (by decide)).trans q27
            have f20 : w94 28 = some (kl_aI G 24 (upd O n (nI tj))) := (fr96 _ (by decide)).trans f20
            have f15 : w94 30 = some (kl_aI G 24 sO) := (fr96 _ (by decide)).trans f15
            have f16 : w94 31 = some (kl_aI G 96 sD) := (fr96 _ (by decide)).trans f16
            have f17 : w94 32 = some (kl_aZ G 24 sG) := (fr96 _ (by decide)).trans f17
            have q33 : w94 33 = some (kl_aI G 7 lch) := (fr96 _ (by decide)).trans q33
            have q34 : w94 34 = some (kl_aI G 7 ((fun t => nI (lco t)))) := (fr96 _ (by decide)).trans q34
            have q35 : w94 35 = some (kl_aI G 7 lpa) := (fr96 _ (by decide)).trans q35
            have q36 : w94 36 = some (kl_aI G 7 lwy) := (fr96 _ (by decide)).trans q36
            have q37 : w94 37 = some (kl_aI G 5 stb) := (fr96 _ (by decide)).trans q37
            have q38 : w94 38 = some (kl_aI G 5 ((fun t => nI (sco t)))) := (fr96 _ (by decide)).trans q38
            have q39 : w94 39 = some (kl_aI G 5 ctb) := (fr96 _ (by decide)).trans q39
            have q40 : w94 40 = some (kl_aI G 5 ((fun t => nI (cln t)))) := (fr96 _ (by decide)).trans q40
            have q41 : w94 41 = some (kl_aI G 50 ((fun t => nI (cw t)))) := (fr96 _ (by decide)).trans q41
            have q43 : w94 43 = some (kl_aI G 12 pl) := (fr96 _ (by decide)).trans q43
            have frm : ∀ j : Nat, j ≠ 26 → j ≠ 28 → j ≠ 29 → j ≠ 30 → j ≠ 31 → j ≠ 32 → j ≠ 43 → w94 j = w j := fun j k0 k1 k2 k3 k4 k5 k6 => (fr96 j k2).trans (frm j k0 k1 k2 k3 k4 k5 k6)
            have hmi : upd (upd (upd (upd D (4 * n) a) (4 * n + 1) b) (4 * n + 2) c) (4 * n + 3) d = md_ins D n (cn tj) a b c d := by unfold md_ins; rw [if_pos (by omega), if_pos (by omega)]
            rw [hmi] at f95
            refine lv_aload_n hx hb dX5_insert_140 rfl (lv_at hl 0 rfl) ?_
            refine lv_dup hx hb dX5_insert_141 rfl ?_
            refine kl_get (C := RX5) (T := TX5) (N := 31) (ci := 5) hx hb hts hinX5 hown hK hP f14 rfl 4 (by decide) (hts (.fieldLink RX5 82 "KinLedgerModel" "rows" "I") (by decide +kernel)) (fun _ h9 => h9) rfl dX5_insert_142 ?_
            refine lv_iconst (v := nI 1) hx hb dX5_insert_145 (by decide) ?_
            refine lv_iadd hx hb dX5_insert_146 ?_
            refine kl_top (z := nI (n + 1)) (by first | exact nI_add _ _ | (rw [nI_add]; first | rfl | (congr 1; omega))) ?_
            refine kl_put (C := RX5) (T := TX5) (N := 31) (ci := 5) (v := .int (nI (n + 1))) (ty := .int) hx hb hts hinX5 tyX5 tyX5_ok nmX5 hown hK hP f14 rfl 4 (by decide) (hts (.fieldLink RX5 82 "KinLedgerModel" "rows" "I") (by decide +kernel)) (fun _ h9 => h9) rfl (by decide +kernel) rfl rfl (Nat.le_of_ble_eq_true rfl) dX5_insert_147 (fun w97 H locs f98 fr99 hzw97 hP => ?_)
            have f98 : w97 26 = some (.inr (5, [.int (nI 0), .int rs, .int (nI nT), .ref (B + 27), .int (nI (n + 1)), .ref (B + 28), .ref (B + 29), .int (nI n), .ref (B + 30), .ref (B + 31), .ref (B + 32), .int (nI nL), .ref (B + 33), .ref (B + 34), .ref (B + 35), .ref (B + 36), .int (nI nS), .ref (B + 37), .ref (B + 38), .int (nI nC), .ref (B + 39), .ref (B + 40), .ref (B + 41), .int (nI nW), .ref (B + 42), .int hi, .ref (B + 43), .int (nI nM), .ref (B + 44), .ref (B + 45), .ref (B + 46)])) := f98
            have q27 : w97 27 = some (kl_aI G 4 ((fun t => nI (cn t)))) := (fr99 _ (by decide)).trans q27
            have f20 : w97 28 = some (kl_aI G 24 (upd O n (nI tj))) := (fr99 _ (by decide)).trans f20
            have f95 : w97 29 = some (kl_aI G 96 ((md_ins D n (cn tj) a b c d))) := (fr99 _ (by decide)).trans f95
            have f15 : w97 30 = some (kl_aI G 24 sO) := (fr99 _ (by decide)).trans f15
            have f16 : w97 31 = some (kl_aI G 96 sD) := (fr99 _ (by decide)).trans f16
            have f17 : w97 32 = some (kl_aZ G 24 sG) := (fr99 _ (by decide)).trans f17
            have q33 : w97 33 = some (kl_aI G 7 lch) := (fr99 _ (by decide)).trans q33
            have q34 : w97 34 = some (kl_aI G 7 ((fun t => nI (lco t)))) := (fr99 _ (by decide)).trans q34
            have q35 : w97 35 = some (kl_aI G 7 lpa) := (fr99 _ (by decide)).trans q35
            have q36 : w97 36 = some (kl_aI G 7 lwy) := (fr99 _ (by decide)).trans q36
            have q37 : w97 37 = some (kl_aI G 5 stb) := (fr99 _ (by decide)).trans q37
            have q38 : w97 38 = some (kl_aI G 5 ((fun t => nI (sco t)))) := (fr99 _ (by decide)).trans q38
            have q39 : w97 39 = some (kl_aI G 5 ctb) := (fr99 _ (by decide)).trans q39
            have q40 : w97 40 = some (kl_aI G 5 ((fun t => nI (cln t)))) := (fr99 _ (by decide)).trans q40
            have q41 : w97 41 = some (kl_aI G 50 ((fun t => nI (cw t)))) := (fr99 _ (by decide)).trans q41
            have q43 : w97 43 = some (kl_aI G 12 pl) := (fr99 _ (by decide)).trans q43
            have frm : ∀ j : Nat, j ≠ 26 → j ≠ 28 → j ≠ 29 → j ≠ 30 → j ≠ 31 → j ≠ 32 → j ≠ 43 → w97 j = w j := fun j k0 k1 k2 k3 k4 k5 k6 => (fr99 j k0).trans (frm j k0 k1 k2 k3 k4 k5 k6)
            refine lv_aload_n hx hb dX5_insert_150 rfl (lv_at hl 0 rfl) ?_
            refine lv_aload_n hx hb dX5_insert_151 rfl (lv_at hl 0 rfl) ?_
            refine lv_iconst (v := nI 0) hx hb dX5_insert_152 (by decide) ?_
            refine lv_iconst (v := nI 3) hx hb dX5_insert_153 (by decide) ?_
            refine kl_cVi (C := RX5) (i := 26) (As := [.int (nI 0), .int (nI 3)]) (rest := [.ref (B + 26)]) ⟨hx, hb, hml, hown, hts⟩ (c_X5_settle l G B _ ccol 0 3 f98 f20 f95 f15 f16 q33 q34 q35 q36 q37 q38 q39 q40 q41 q43 ⟨by omega, by omega, by omega, by omega, by omega⟩ hrp (by omega) (by omega) (by omega)) (cwV 2 hts gX5_insert_X5_settle rfl rfl rfl (by decide +kernel) ⟨Nat.le_of_ble_eq_true rfl, Nat.le_of_ble_eq_true rfl⟩) hK hP f98 rfl rfl hl.1 rfl (Nat.le_of_ble_eq_true rfl) dX5_insert_154 ⟨Nat.le_of_ble_eq_true rfl, Nat.le_of_ble_eq_true rfl⟩ (fun r102 w100 H locs q101 hP => ?_)
            rcases q101 with ⟨hsw, rfl, ⟨h9, f103⟩, f104, f105, ⟨p9, f106⟩, fr107⟩ | ⟨y2, hy0, hsw, rfl, ⟨h9, f103⟩, ⟨O2, D2, f104, f105, hO2, hD2⟩, ⟨p9, f106⟩, fr107⟩
            · have q27 : w100 27 = some (kl_aI G 4 ((fun t => nI (cn t)))) := (fr107 _ (by decide) (by decide) (by decide) (by decide)).trans q27
              have f15 : w100 30 = some (kl_aI G 24 sO) := (fr107 _ (by decide) (by decide) (by decide) (by decide)).trans f15
              have f16 : w100 31 = some (kl_aI G 96 sD) := (fr107 _ (by decide) (by decide) (by decide) (by decide)).trans f16
              have f17 : w100 32 = some (kl_aZ G 24 sG) := (fr107 _ (by decide) (by decide) (by decide) (by decide)).trans f17
              have q33 : w100 33 = some (kl_aI G 7 lch) := (fr107 _ (by decide) (by decide) (by decide) (by decide)).trans q33
              have q34 : w100 34 = some (kl_aI G 7 ((fun t => nI (lco t)))) := (fr107 _ (by decide) (by decide) (by decide) (by decide)).trans q34
              have q35 : w100 35 = some (kl_aI G 7 lpa) := (fr107 _ (by decide) (by decide) (by decide) (by decide)).trans q35
              have q36 : w100 36 = some (kl_aI G 7 lwy) := (fr107 _ (by decide) (by decide) (by decide) (by decide)).trans q36
              have q37 : w100 37 = some (kl_aI G 5 stb) := (fr107 _ (by decide) (by decide) (by decide) (by decide)).trans q37
              have q38 : w100 38 = some (kl_aI G 5 ((fun t => nI (sco t)))) := (fr107 _ (by decide) (by decide) (by decide) (by decide)).trans q38
              have q39 : w100 39 = some (kl_aI G 5 ctb) := (fr107 _ (by decide) (by decide) (by decide) (by decide)).trans q39
              have q40 : w100 40 = some (kl_aI G 5 ((fun t => nI (cln t)))) := (fr107 _ (by decide) (by decide) (by decide) (by decide)).trans q40
              have q41 : w100 41 = some (kl_aI G 50 ((fun t => nI (cw t)))) := (fr107 _ (by decide) (by decide) (by decide) (by decide)).trans q41
              have f103 : w100 26 = some (.inr (5, [.int (nI 0), .int rs, .int (nI nT), .ref (B + 27), .int (nI (n + 1)), .ref (B + 28), .ref (B + 29), .int (nI n), .ref (B + 30), .ref (B + 31), .ref (B + 32), .int (nI nL), .ref (B + 33), .ref (B + 34), .ref (B + 35), .ref (B + 36), .int (nI nS), .ref (B + 37), .ref (B + 38), .int (nI nC), .ref (B + 39), .ref (B + 40), .ref (B + 41), .int (nI nW), .ref (B + 42), .int h9, .ref (B + 43), .int (nI nM), .ref (B + 44), .ref (B + 45), .ref (B + 46)])) := f103
              have f104 : w100 28 = some (kl_aI G 24 (upd O n (nI tj))) := f104
              have f105 : w100 29 = some (kl_aI G 96 ((md_ins D n (cn tj) a b c d))) := f105
              have f106 : w100 43 = some (kl_aI G 12 p9) := f106
              have frm : ∀ j : Nat, j ≠ 26 → j ≠ 28 → j ≠ 29 → j ≠ 30 → j ≠ 31 → j ≠ 32 → j ≠ 43 → w100 j = w j := fun j k0 k1 k2 k3 k4 k5 k6 => (fr107 j k0 k1 k2 k6).trans (frm j k0 k1 k2 k3 k4 k5 k6)
              refine kl_put (C := RX5) (T := TX5) (N := 31) (ci := 5) (v := .int (nI 0)) (ty := .int) hx hb hts hinX5 tyX5 tyX5_ok nmX5 hown hK hP f103 rfl 0 (by decide) (hts (.fieldLink RX5 71 "KinLedgerModel" "code" "I") (by decide +kernel)) (fun _ h9 => h9) rfl (by decide +kernel) rfl rfl (Nat.le_of_ble_eq_true rfl) dX5_insert_157 (fun w108 H locs f109 fr110 hzw108 hP => ?_)
              have f109 : w108 26 = some (.inr (5, [.int (nI 0), .int rs, .int (nI nT), .ref (B + 27), .int (nI (n + 1)), .ref (B + 28), .ref (B + 29), .int (nI n), .ref (B + 30), .ref (B + 31), .ref (B + 32), .int (nI nL), .ref (B + 33), .ref (B + 34), .ref (B + 35), .ref (B + 36), .int (nI nS), .ref (B + 37), .ref (B + 38), .int (nI nC), .ref (B + 39), .ref (B + 40), .ref (B + 41), .int (nI nW), .ref (B + 42), .int h9, .ref (B + 43), .int (nI nM), .ref (B + 44), .ref (B + 45), .ref (B + 46)])) := f109
              have q27 : w108 27 = some (kl_aI G 4 ((fun t => nI (cn t)))) := (fr110 _ (by decide)).trans q27
              have f104 : w108 28 = some (kl_aI G 24 (upd O n (nI tj))) := (fr110 _ (by decide)).trans f104
              have f105 : w108 29 = some (kl_aI G 96 ((md_ins D n (cn tj) a b c d))) := (fr110 _ (by decide)).trans f105
              have f15 : w108 30 = some (kl_aI G 24 sO) := (fr110 _ (by decide)).trans f15
              have f16 : w108 31 = some (kl_aI G 96 sD) := (fr110 _ (by decide)).trans f16
              have f17 : w108 32 = some (kl_aZ G 24 sG) := (fr110 _ (by decide)).trans f17
              have q33 : w108 33 = some (kl_aI G 7 lch) := (fr110 _ (by decide)).trans q33
              have q34 : w108 34 = some (kl_aI G 7 ((fun t => nI (lco t)))) := (fr110 _ (by decide)).trans q34
              have q35 : w108 35 = some (kl_aI G 7 lpa) := (fr110 _ (by decide)).trans q35
              have q36 : w108 36 = some (kl_aI G 7 lwy) := (fr110 _ (by decide)).trans q36
              have q37 : w108 37 = some (kl_aI G 5 stb) := (fr110 _ (by decide)).trans q37
              have q38 : w108 38 = some (kl_aI G 5 ((fun t => nI (sco t)))) := (fr110 _ (by decide)).trans q38
              have q39 : w108 39 = some (kl_aI G 5 ctb) := (fr110 _ (by decide)).trans q39
              have q40 : w108 40 = some (kl_aI G 5 ((fun t => nI (cln t)))) := (fr110 _ (by decide)).trans q40
              have q41 : w108 41 = some (kl_aI G 50 ((fun t => nI (cw t)))) := (fr110 _ (by decide)).trans q41
              have f106 : w108 43 = some (kl_aI G 12 p9) := (fr110 _ (by decide)).trans f106
              have frm : ∀ j : Nat, j ≠ 26 → j ≠ 28 → j ≠ 29 → j ≠ 30 → j ≠ 31 → j ≠ 32 → j ≠ 43 → w108 j = w j := fun j k0 k1 k2 k3 k4 k5 k6 => (fr110 j k0).trans (frm j k0 k1 k2 k3 k4 k5 k6)
              exact kl_vret hx hb hr hlocks hP (Or.inr (Or.inr (Or.inl (⟨hok, by omega, tj, htj, rfl, hsw, ⟨_, _, f109⟩, f104, f105, ⟨_, _, _, _, f15, f16, f17, f106⟩, frm⟩)))) dX5_insert_160
            · have q27 : w100 27 = some (kl_aI G 4 ((fun t => nI (cn t)))) := (fr107 _ (by decide) (by decide) (by decide) (by decide)).trans q27
              have f15 : w100 30 = some (kl_aI G 24 sO) := (fr107 _ (by decide) (by decide) (by decide) (by decide)).trans f15
              have f16 : w100 31 = some (kl_aI G 96 sD) := (fr107 _ (by decide) (by decide) (by decide) (by decide)).trans f16
              have f17 : w100 32 = some (kl_aZ G 24 sG) := (fr107 _ (by decide) (by decide) (by decide) (by decide)).trans f17
              have q33 : w100 33 = some (kl_aI G 7 lch) := (fr107 _ (by decide) (by decide) (by decide) (by decide)).trans q33
              have q34 : w100 34 = some (kl_aI G 7 ((fun t => nI (lco t)))) := (fr107 _ (by decide) (by decide) (by decide) (by decide)).trans q34
              have q35 : w100 35 = some (kl_aI G 7 lpa) := (fr107 _ (by decide) (by decide) (by decide) (by decide)).trans q35
              have q36 : w100 36 = some (kl_aI G 7 lwy) := (fr107 _ (by decide) (by decide) (by decide) (by decide)).trans q36
              have q37 : w100 37 = some (kl_aI G 5 stb) := (fr107 _ (by decide) (by decide) (by decide) (by decide)).trans q37
              have q38 : w100 38 = some (kl_aI G 5 ((fun t => nI (sco t)))) := (fr107 _ (by decide) (by decide) (by decide) (by decide)).trans q38
              have q39 : w100 39 = some (kl_aI G 5 ctb) := (fr107 _ (by decide) (by decide) (by decide) (by decide)).trans q39
              have q40 : w100 40 = some (kl_aI G 5 ((fun t => nI (cln t)))) := (fr107 _ (by decide) (by decide) (by decide) (by decide)).trans q40
              have q41 : w100 41 = some (kl_aI G 50 ((fun t => nI (cw t)))) := (fr107 _ (by decide) (by decide) (by decide) (by decide)).trans q41
              have f103 : w100 26 = some (.inr (5, [.int (nI 0), .int y2, .int (nI nT), .ref (B + 27), .int (nI n), .ref (B + 28), .ref (B + 29), .int (nI n), .ref (B + 30), .ref (B + 31), .ref (B + 32), .int (nI nL), .ref (B + 33), .ref (B + 34), .ref (B + 35), .ref (B + 36), .int (nI nS), .ref (B + 37), .ref (B + 38), .int (nI nC), .ref (B + 39), .ref (B + 40), .ref (B + 41), .int (nI nW), .ref (B + 42), .int h9, .ref (B + 43), .int (nI nM), .ref (B + 44), .ref (B + 45), .ref (B + 46)])) := f103
              have f104 : w100 28 = some (kl_aI G 24 O2) := f104
              have f105 : w100 29 = some (kl_aI G 96 D2) := f105
              have f106 : w100 43 = some (kl_aI G 12 p9) := f106
              have frm : ∀ j : Nat, j ≠ 26 → j ≠ 28 → j ≠ 29 → j ≠ 30 → j ≠ 31 → j ≠ 32 → j ≠ 43 → w100 j = w j := fun j k0 k1 k2 k3 k4 k5 k6 => (fr107 j k0 k1 k2 k6).trans (frm j k0 k1 k2 k3 k4 k5 k6)
              refine kl_put (C := RX5) (T := TX5) (N := 31) (ci := 5) (v := .int (nI 3)) (ty := .int) hx hb hts hinX5 tyX5 tyX5_ok nmX5 hown hK hP f103 rfl 0 (by decide) (hts (.fieldLink RX5 71 "KinLedgerModel" "code" "I") (by decide +kernel)) (fun _ h9 => h9) rfl (by decide +kernel) rfl rfl (Nat.le_of_ble_eq_true rfl) dX5_insert_157 (fun w111 H locs f112 fr113 hzw111 hP => ?_)
              have f112 : w111 26 = some (.inr (5, [.int (nI 3), .int y2, .int (nI nT), .ref (B + 27), .int (nI n), .ref (B + 28), .ref (B + 29), .int (nI n), .ref (B + 30), .ref (B + 31), .ref (B + 32), .int (nI nL), .ref (B + 33), .ref (B + 34), .ref (B + 35), .ref (B + 36), .int (nI nS), .ref (B + 37), .ref (B + 38), .int (nI nC), .ref (B + 39), .ref (B + 40), .ref (B + 41), .int (nI nW), .ref (B + 42), .int h9, .ref (B + 43), .int (nI nM), .ref (B + 44), .ref (B + 45), .ref (B + 46)])) := f112
              have q27 : w111 27 = some (kl_aI G 4 ((fun t => nI (cn t)))) := (fr113 _ (by decide)).trans q27
              have f104 : w111 28 = some (kl_aI G 24 O2) := (fr113 _ (by decide)).trans f104
              have f105 : w111 29 = some (kl_aI G 96 D2) := (fr113 _ (by decide)).trans f105
              have f15 : w111 30 = some (kl_aI G 24 sO) := (fr113 _ (by decide)).trans f15
              have f16 : w111 31 = some (kl_aI G 96 sD) := (fr113 _ (by decide)).trans f16
              have f17 : w111 32 = some (kl_aZ G 24 sG) := (fr113 _ (by decide)).trans f17
              have q33 : w111 33 = some (kl_aI G 7 lch) := (fr113 _ (by decide)).trans q33
              have q34 : w111 34 = some (kl_aI G 7 ((fun t => nI (lco t)))) := (fr113 _ (by decide)).trans q34
              have q35 : w111 35 = some (kl_aI G 7 lpa) := (fr113 _ (by decide)).trans q35
              have q36 : w111 36 = some (kl_aI G 7 lwy) := (fr113 _ (by decide)).trans q36
              have q37 : w111 37 = some (kl_aI G 5 stb) := (fr113 _ (by decide)).trans q37
              have q38 : w111 38 = some (kl_aI G 5 ((fun t => nI (sco t)))) := (fr113 _ (by decide)).trans q38
              have q39 : w111 39 = some (kl_aI G 5 ctb) := (fr113 _ (by decide)).trans q39
              have q40 : w111 40 = some (kl_aI G 5 ((fun t => nI (cln t)))) := (fr113 _ (by decide)).trans q40
              have q41 : w111 41 = some (kl_aI G 50 ((fun t => nI (cw t)))) := (fr113 _ (by decide)).trans q41
              have f106 : w111 43 = some (kl_aI G 12 p9) := (fr113 _ (by decide)).trans f106
              have frm : ∀ j : Nat, j ≠ 26 → j ≠ 28 → j ≠ 29 → j ≠ 30 → j ≠ 31 → j ≠ 32 → j ≠ 43 → w111 j = w j := fun j k0 k1 k2 k3 k4 k5 k6 => (fr113 j k0).trans (frm j k0 k1 k2 k3 k4 k5 k6)
              exact kl_vret hx hb hr hlocks hP (Or.inr (Or.inr (Or.inr (⟨hok, by omega, tj, htj, rfl, y2, hy0, hsw, ⟨_, _, f112⟩, ⟨⟨_, _, f104, f105, fun q hq => (hO2 q hq).trans (hsO q hq), fun q hq => (hD2 q hq).trans (hsD q hq)⟩, ⟨_, _, _, _, f15, f16, f17, f106⟩⟩, frm⟩)))) dX5_insert_160
      · refine lv_iconst (v := nI 2) hx hb dX5_insert_26 (by decide) ?_
        refine lv_goto (tgt := 31) hx hb dX5_insert_27 (by decide) ?_
        refine kl_put (C := RX5) (T := TX5) (N := 31) (ci := 5) (v := .int (nI 2)) (ty := .int) hx hb hts hinX5 tyX5 tyX5_ok nmX5 hown hK hP q26 rfl 0 (by decide) (hts (.fieldLink RX5 71 "KinLedgerModel" "code" "I") (by decide +kernel)) (fun _ h9 => h9) rfl (by decide +kernel) rfl rfl (Nat.le_of_ble_eq_true rfl) dX5_insert_31 (fun w114 H locs f115 fr116 hzw114 hP => ?_)
        have f115 : w114 26 = some (.inr (5, [.int (nI 2), .int rs, .int (nI nT), .ref (B + 27), .int (nI n), .ref (B + 28), .ref (B + 29), .int (nI on), .ref (B + 30), .ref (B + 31), .ref (B + 32), .int (nI nL), .ref (B + 33), .ref (B + 34), .ref (B + 35), .ref (B + 36), .int (nI nS), .ref (B + 37), .ref (B + 38), .int (nI nC), .ref (B + 39), .ref (B + 40), .ref (B + 41), .int (nI nW), .ref (B + 42), .int hi, .ref (B + 43), .int (nI nM), .ref (B + 44), .ref (B + 45), .ref (B + 46)])) := f115
        have q27 : w114 27 = some (kl_aI G 4 ((fun t => nI (cn t)))) := (fr116 _ (by decide)).trans q27
        have q28 : w114 28 = some (kl_aI G 24 O) := (fr116 _ (by decide)).trans q28
        have q29 : w114 29 = some (kl_aI G 96 D) := (fr116 _ (by decide)).trans q29
        have q30 : w114 30 = some (kl_aI G 24 oO) := (fr116 _ (by decide)).trans q30
        have q31 : w114 31 = some (kl_aI G 96 oD) := (fr116 _ (by decide)).trans q31
        have q32 : w114 32 = some (kl_aZ G 24 gn) := (fr116 _ (by decide)).trans q32
        have q33 : w114 33 = some (kl_aI G 7 lch) := (fr116 _ (by decide)).trans q33
        have q34 : w114 34 = some (kl_aI G 7 ((fun t => nI (lco t)))) := (fr116 _ (by decide)).trans q34
        have q35 : w114 35 = some (kl_aI G 7 lpa) := (fr116 _ (by decide)).trans q35
        have q36 : w114 36 = some (kl_aI G 7 lwy) := (fr116 _ (by decide)).trans q36
        have q37 : w114 37 = some (kl_aI G 5 stb) := (fr116 _ (by decide)).trans q37
        have q38 : w114 38 = some (kl_aI G 5 ((fun t => nI (sco t)))) := (fr116 _ (by decide)).trans q38
        have q39 : w114 39 = some (kl_aI G 5 ctb) := (fr116 _ (by decide)).trans q39
        have q40 : w114 40 = some (kl_aI G 5 ((fun t => nI (cln t)))) := (fr116 _ (by decide)).trans q40
        have q41 : w114 41 = some (kl_aI G 50 ((fun t => nI (cw t)))) := (fr116 _ (by decide)).trans q41
        have q43 : w114 43 = some (kl_aI G 12 pl) := (fr116 _ (by decide)).trans q43
        have frm : ∀ j : Nat, j ≠ 26 → j ≠ 28 → j ≠ 29 → j ≠ 30 → j ≠ 31 → j ≠ 32 → j ≠ 43 → w114 j = w j := fun j k0 k1 k2 k3 k4 k5 k6 => (fr116 j k0).trans (frm j k0 k1 k2 k3 k4 k5 k6)
        refine lv_aload_n hx hb dX5_insert_34 rfl (lv_at hl 0 rfl) ?_
        refine kl_get (C := RX5) (T := TX5) (N := 31) (ci := 5) hx hb hts hinX5 hown hK hP f115 rfl 0 (by decide) (hts (.fieldLink RX5 71 "KinLedgerModel" "code" "I") (by decide +kernel)) (fun _ h9 => h9) rfl dX5_insert_35 ?_
        refine kl_z_le (tgt := 42) hx hb (by omega) dX5_insert_38 (by decide) (fun c38 => absurd c38 (by omega)) (fun c38 => ?_)
        exact kl_vret hx hb hr hlocks hP (Or.inr (Or.inl (⟨⟨c6, c10⟩, by omega, f115, ⟨⟨_, _, q28, q29, fun _ _ => rfl, fun _ _ => rfl⟩, ⟨_, _, _, _, q30, q31, q32, q43⟩⟩, frm⟩))) dX5_insert_41
    · refine lv_iconst (v := nI 1) hx hb dX5_insert_13 (by decide) ?_
      refine lv_goto (tgt := 31) hx hb dX5_insert_14 (by decide) ?_
      refine kl_put (C := RX5) (T := TX5) (N := 31) (ci := 5) (v := .int (nI 1)) (ty := .int) hx hb hts hinX5 tyX5 tyX5_ok nmX5 hown hK hP q26 rfl 0 (by decide) (hts (.fieldLink RX5 71 "KinLedgerModel" "code" "I") (by decide +kernel)) (fun _ h9 => h9) rfl (by decide +kernel) rfl rfl (Nat.le_of_ble_eq_true rfl) dX5_insert_31 (fun w117 H locs f118 fr119 hzw117 hP => ?_)
      have f118 : w117 26 = some (.inr (5, [.int (nI 1), .int rs, .int (nI nT), .ref (B + 27), .int (nI n), .ref (B + 28), .ref (B + 29), .int (nI on), .ref (B + 30), .ref (B + 31), .ref (B + 32), .int (nI nL), .ref (B + 33), .ref (B + 34), .ref (B + 35), .ref (B + 36), .int (nI nS), .ref (B + 37), .ref (B + 38), .int (nI nC), .ref (B + 39), .ref (B + 40), .ref (B + 41), .int (nI nW), .ref (B + 42), .int hi, .ref (B + 43), .int (nI nM), .ref (B + 44), .ref (B + 45), .ref (B + 46)])) := f118
      have q27 : w117 27 = some (kl_aI G 4 ((fun t => nI (cn t)))) := (fr119 _ (by decide)).trans q27
      have q28 : w117 28 = some (kl_aI G 24 O) := (fr119 _ (by decide)).trans q28
      have q29 : w117 29 = some (kl_aI G 96 D) := (fr119 _ (by decide)).trans q29
      have q30 : w117 30 = some (kl_aI G 24 oO) := (fr119 _ (by decide)).trans q30
      have q31 : w117 31 = some (kl_aI G 96 oD) := (fr119 _ (by decide)).trans q31
      have q32 : w117 32 = some (kl_aZ G 24 gn) := (fr119 _ (by decide)).trans q32
      have q33 : w117 33 = some (kl_aI G 7 lch) := (fr119 _ (by decide)).trans q33
      have q34 : w117 34 = some (kl_aI G 7 ((fun t => nI (lco t)))) := (fr119 _ (by decide)).trans q34
      have q35 : w117 35 = some (kl_aI G 7 lpa) := (fr119 _ (by decide)).trans q35
      have q36 : w117 36 = some (kl_aI G 7 lwy) := (fr119 _ (by decide)).trans q36
      have q37 : w117 37 = some (kl_aI G 5 stb) := (fr119 _ (by decide)).trans q37
      have q38 : w117 38 = some (kl_aI G 5 ((fun t => nI (sco t)))) := (fr119 _ (by decide)).trans q38
      have q39 : w117 39 = some (kl_aI G 5 ctb) := (fr119 _ (by decide)).trans q39
      have q40 : w117 40 = some (kl_aI G 5 ((fun t => nI (cln t)))) := (fr119 _ (by decide)).trans q40
      have q41 : w117 41 = some (kl_aI G 50 ((fun t => nI (cw t)))) := (fr119 _ (by decide)).trans q41
      have q43 : w117 43 = some (kl_aI G 12 pl) := (fr119 _ (by decide)).trans q43
      have frm : ∀ j : Nat, j ≠ 26 → j ≠ 28 → j ≠ 29 → j ≠ 30 → j ≠ 31 → j ≠ 32 → j ≠ 43 → w117 j = w j := fun j k0 k1 k2 k3 k4 k5 k6 => (fr119 j k0).trans (frm j k0 k1 k2 k3 k4 k5 k6)
      refine lv_aload_n hx hb dX5_insert_34 rfl (lv_at hl 0 rfl) ?_
      refine kl_get (C := RX5) (T := TX5) (N := 31) (ci := 5) hx hb hts hinX5 hown hK hP f118 rfl 0 (by decide) (hts (.fieldLink RX5 71 "KinLedgerModel" "code" "I") (by decide +kernel)) (fun _ h9 => h9) rfl dX5_insert_35 ?_
      refine kl_z_le (tgt := 42) hx hb (by omega) dX5_insert_38 (by decide) (fun c38 => absurd c38 (by omega)) (fun c38 => ?_)
      exact kl_vret hx hb hr hlocks hP (Or.inl (⟨fun z => z.2 c10, f118, ⟨⟨_, _, q28, q29, fun _ _ => rfl, fun _ _ => rfl⟩, ⟨_, _, _, _, q30, q31, q32, q43⟩⟩, frm⟩)) dX5_insert_41

abbrev rm_X5_delete : Room := { frames := 5, cells := 0, slots := 0, locals := 113 }
set_option maxHeartbeats 4000000 in
set_option maxRecDepth 100000 in
theorem c_X5_delete (l : Launch) (G : kl_G) (B : Nat) (w : kl_M) {nT nL nS nC nW nM n on : Nat} {ec rs hi : Int32} {cn : Nat → Nat} {O D oO oD gn pl : Nat → Int32} {lch : Nat → Int32} {lco : Nat → Nat} {lpa lwy stb : Nat → Int32} {sco : Nat → Nat} {ctb : Nat → Int32} {cln cw : Nat → Nat} (ccol : Nat → Nat) (t c x : Int32) (q26 : w 26 = some (.inr (5, [.int ec, .int rs, .int (nI nT), .ref (B + 27), .int (nI n), .ref (B + 28), .ref (B + 29), .int (nI on), .ref (B + 30), .ref (B + 31), .ref (B + 32), .int (nI nL), .ref (B + 33), .ref (B + 34), .ref (B + 35), .ref (B + 36), .int (nI nS), .ref (B + 37), .ref (B + 38), .int (nI nC), .ref (B + 39), .ref (B + 40), .ref (B + 41), .int (nI nW), .ref (B + 42), .int hi, .ref (B + 43), .int (nI nM), .ref (B + 44), .ref (B + 45), .ref (B + 46)]))) (q27 : w 27 = some (kl_aI G 4 ((fun t => nI (cn t))))) (q28 : w 28 = some (kl_aI G 24 O)) (q29 : w 29 = some (kl_aI G 96 D)) (q30 : w 30 = some (kl_aI G 24 oO)) (q31 : w 31 = some (kl_aI G 96 oD)) (q32 : w 32 = some (kl_aZ G 24 gn)) (q33 : w 33 = some (kl_aI G 7 lch)) (q34 : w 34 = some (kl_aI G 7 ((fun t => nI (lco t))))) (q35 : w 35 = some (kl_aI G 7 lpa)) (q36 : w 36 = some (kl_aI G 7 lwy)) (q37 : w 37 = some (kl_aI G 5 stb)) (q38 : w 38 = some (kl_aI G 5 ((fun t => nI (sco t))))) (q39 : w 39 = some (kl_aI G 5 ctb)) (q40 : w 40 = some (kl_aI G 5 ((fun t => nI (cln t))))) (q41 : w 41 = some (kl_aI G 50 ((fun t => nI (cw t))))) (q43 : w 43 = some (kl_aI G 12 pl)) (hmn : nT ≤ 4 ∧ nL ≤ 6 ∧ nS ≤ 4 ∧ nC ≤ 4 ∧ n ≤ 24) (hrp : (md_RP nL lch lco lpa lwy nS stb sco nC ctb cln cw ccol)) (hcn4 : ∀ j, j < nT → cn j ≤ 4) : Met l yX5_delete wsX5_delete rm_X5_delete (kl_Pc G B w [.ref (B + 26), .int t, .int c, .int x]) (kl_Qi G B (fun r w1 => (¬ mt_col t c nT cn ∧ w1 26 = some (.inr (5, [.int (nI 1), .int rs, .int (nI nT), .ref (B + 27), .int (nI n), .ref (B + 28), .ref (B + 29), .int (nI on), .ref (B + 30), .ref (B + 31), .ref (B + 32), .int (nI nL), .ref (B + 33), .ref (B + 34), .ref (B + 35), .ref (B + 36), .int (nI nS), .ref (B + 37), .ref (B + 38), .int (nI nC), .ref (B + 39), .ref (B + 40), .ref (B + 41), .int (nI nW), .ref (B + 42), .int hi, .ref (B + 43), .int (nI nM), .ref (B + 44), .ref (B + 45), .ref (B + 46)])) ∧ md_sm G w1 n O D ∧ ∀ j : Nat, j ≠ 26 → j ≠ 28 → j ≠ 29 → j ≠ 30 → j ≠ 31 → j ≠ 32 → j ≠ 43 → w1 j = w j) ∨ (mt_col t c nT cn ∧ ∃ (q : Nat) (g1 g2 sO sD D1 : Nat → Int32) (kp : Int32) (y : Nat) (O3 D3 : Nat → Int32), q < 4 ∧ c = nI q ∧ (∀ p, p < n → sO p = O p) ∧ (∀ k, k < 4 * n → sD k = D k) ∧ (∀ p, p < n → mt_mark O D t q x p (g1 p)) ∧ mt_from (md_T n sO) sD nL lch lco lpa lwy g1 g2 ∧ (∀ l p, p < 24 → l < nL → mt_chk (md_T n sO) sD g2 lch lco lpa lwy l p) ∧ mt_wr n (fun l _ => l < nL) (fun l p => lwy l = nI 2 ∧ g2 p = 0 ∧ mt_lost (md_T n sO) sD g2 (lch l) (lco l) (lpa l) p) lco (fun _ => nI 0) D D1 ∧ mt_kp n (fun l _ => l < nL) (fun l p => lwy l = 0 ∧ g2 p = 0 ∧ mt_lost (md_T n sO) sD g2 (lch l) (lco l) (lpa l) p) kp ∧ md_wy kp y ∧ md_cp g2 O D1 n O3 D3 ∧ r = nI (n - md_st g2 n) ∧ md_sw y (mt_why (md_T (md_st g2 n) O3) D3 nT nS stb sco nL lch lco lpa nC ctb (fun j i => cw (10 * j + i)) cln) (nI 0) ∧ (∃ h2 on2, w1 26 = some (.inr (5, [.int (nI 0), .int rs, .int (nI nT), .ref (B + 27), .int (nI (md_st g2 n)), .ref (B + 28), .ref (B + 29), .int (nI on2), .ref (B + 30), .ref (B + 31), .ref (B + 32), .int (nI nL), .ref (B + 33), .ref (B + 34), .ref (B + 35), .ref (B + 36), .int (nI nS), .ref (B + 37), .ref (B + 38), .int (nI nC), .ref (B + 39), .ref (B + 40), .ref (B + 41), .int (nI nW), .ref (B + 42), .int h2, .ref (B + 43), .int (nI nM), .ref (B + 44), .ref (B + 45), .ref (B + 46)]))) ∧ w1 28 = some (kl_aI G 24 O3) ∧ w1 29 = some (kl_aI G 96 D3) ∧ md_jk G w1 ∧ ∀ j : Nat, j ≠ 26 → j ≠ 28 → j ≠ 29 → j ≠ 30 → j ≠ 31 → j ≠ 32 → j ≠ 43 → w1 j = w j) ∨ (mt_col t c nT cn ∧ ∃ (q : Nat) (g1 g2 sO sD D1 : Nat → Int32) (kp : Int32) (y : Nat) (O3 D3 : Nat → Int32), q < 4 ∧ c = nI q ∧ (∀ p, p < n → sO p = O p) ∧ (∀ k, k < 4 * n → sD k = D k) ∧ (∀ p, p < n → mt_mark O D t q x p (g1 p)) ∧ mt_from (md_T n sO) sD nL lch lco lpa lwy g1 g2 ∧ (∀ l p, p < 24 → l < nL → mt_chk (md_T n sO) sD g2 lch lco lpa lwy l p) ∧ mt_wr n (fun l _ => l < nL) (fun l p => lwy l = nI 2 ∧ g2 p = 0 ∧ mt_lost (md_T n sO) sD g2 (lch l) (lco l) (lpa l) p) lco (fun _ => nI 0) D D1 ∧ mt_kp n (fun l _ => l < nL) (fun l p => lwy l = 0 ∧ g2 p = 0 ∧ mt_lost (md_T n sO) sD g2 (lch l) (lco l) (lpa l) p) kp ∧ md_wy kp y ∧ md_cp g2 O D1 n O3 D3 ∧ ∃ y2, y2 ≠ 0 ∧ md_sw y (mt_why (md_T (md_st g2 n) O3) D3 nT nS stb sco nL lch lco lpa nC ctb (fun j i => cw (10 * j + i)) cln) y2 ∧ (∃ h2 on2, w1 26 = some (.inr (5, [.int (nI 2), .int y2, .int (nI nT), .ref (B + 27), .int (nI n), .ref (B + 28), .ref (B + 29), .int (nI on2), .ref (B + 30), .ref (B + 31), .ref (B + 32), .int (nI nL), .ref (B + 33), .ref (B + 34), .ref (B + 35), .ref (B + 36), .int (nI nS), .ref (B + 37), .ref (B + 38), .int (nI nC), .ref (B + 39), .ref (B + 40), .ref (B + 41), .int (nI nW), .ref (B + 42), .int h2, .ref (B + 43), .int (nI nM), .ref (B + 44), .ref (B + 45), .ref (B + 46)]))) ∧ md_sm G w1 n O D ∧ ∀ j : Nat, j ≠ 26 → j ≠ 28 → j ≠ 29 → j ≠ 30 → j ≠ 31 → j ≠ 32 → j ≠ 43 → w1 j = w j))) 0 0 (kl_fr B) := by
  refine Met.ofW (cc := cX5_delete) (maxL := 8) (ret := (some .int)) (by decide) rfl ?_
  intro pg e s m args below meth cd s₁ Bd hml hv
  obtain ⟨rfl, hP0, hK⟩ := hv
  have hx := Bd.exec
  have hb := Bd.bytes
  have hr := Bd.returns
  have hts := atoms_spec (ws := wsX5_delete) Bd.pre
  have hown : s.vm.findClass RX5 = some m.cls := findClass_of_methodNamed Bd.named
  have hlocks := Bd.notSynchronized
  have hinX5 : ∀ w ∈ u_ws RX5 TX5 31, w ∈ wsX5_delete := by decide +kernel
  have hP := kl_S.rf hP0
  have hl := lv_entry ([.ref (B + 26), .int t, .int c, .int x]) (n := 8) (Nat.le_of_ble_eq_true rfl)
  rw [lg_entry_eq]
  generalize (lg_sl ([.ref (B + 26), .int t, .int c, .int x]) ++ List.replicate (8 - (lg_sl ([.ref (B + 26), .int t, .int c, .int x])).length) Slot.unset).toArray = ls at hl ⊢
  have hl : lv_has ls 8 [(0, .ref (B + 26)), (1, .int t), (2, .int c), (3, .int x)] := hl
  have frm : ∀ j : Nat, j ≠ 26 → j ≠ 28 → j ≠ 29 → j ≠ 30 → j ≠ 31 → j ≠ 32 → j ≠ 43 → w j = w j := fun j _ _ _ _ _ _ _ => rfl
  obtain ⟨m1, m2, m3, m4, m5⟩ := hmn
  have hrl := md_RP.hrl hrp
  refine lv_aload_n hx hb dX5_delete_0 rfl (lv_at hl 0 rfl) ?_
  refine lv_aload_n hx hb dX5_delete_1 rfl (lv_at hl 0 rfl) ?_
  refine lv_iload_n hx hb dX5_delete_2 rfl (lv_at hl 1 rfl) ?_
  refine lv_iload_n hx hb dX5_delete_3 rfl (lv_at hl 2 rfl) ?_
  refine kl_cVi (C := RX5) (i := 26) (As := [.int t, .int c]) (rest := [.ref (B + 26)]) ⟨hx, hb, hml, hown, hts⟩ (c_X5_isColumn l G B _ t c q26 q27 (by omega) hcn4) (cwV 2 hts gX5_delete_X5_isColumn rfl rfl rfl (by decide +kernel) ⟨Nat.le_of_ble_eq_true rfl, Nat.le_of_ble_eq_true rfl⟩) hK hP q26 rfl rfl hl.1 rfl (Nat.le_of_ble_eq_true rfl) dX5_delete_4 ⟨Nat.le_of_ble_eq_true rfl, Nat.le_of_ble_eq_true rfl⟩ (fun r3 w1 H locs q2 hP => ?_)
  obtain ⟨rfl, hv4⟩ := q2
  refine kl_ifeq (tgt := 14) hx hb hv4 dX5_delete_7 (by decide) (fun c7 => ?_) (fun c7 => ?_)
  · refine lv_iconst (v := nI 1) hx hb dX5_delete_14 (by decide) ?_
    refine kl_put (C := RX5) (T := TX5) (N := 31) (ci := 5) (v := .int (nI 1)) (ty := .int) hx hb hts hinX5 tyX5 tyX5_ok nmX5 hown hK hP q26 rfl 0 (by decide) (hts (.fieldLink RX5 71 "KinLedgerModel" "code" "I") (by decide +kernel)) (fun _ h9 => h9) rfl (by decide +kernel) rfl rfl (Nat.le_of_ble_eq_true rfl) dX5_delete_15 (fun w5 H locs f6 fr7 hzw5 hP => ?_)
    have f6 : w5 26 = some (.inr (5, [.int (nI 1), .int rs, .int (nI nT), .ref (B + 27), .int (nI n), .ref (B + 28), .ref (B + 29), .int (nI on), .ref (B + 30), .ref (B + 31), .ref (B + 32), .int (nI nL), .ref (B + 33), .ref (B + 34), .ref (B + 35), .ref (B + 36), .int (nI nS), .ref (B + 37), .ref (B + 38), .int (nI nC), .ref (B + 39), .ref (B + 40), .ref (B + 41), .int (nI nW), .ref (B + 42), .int hi, .ref (B + 43), .int (nI nM), .ref (B + 44), .ref (B + 45), .ref (B + 46)])) := f6
    have q27 : w5 27 = some (kl_aI G 4 ((fun t => nI (cn t)))) := (fr7 _ (by decide)).trans q27
    have q28 : w5 28 = some (kl_aI G 24 O) := (fr7 _ (by decide)).trans q28
    have q29 : w5 29 = some (kl_aI G 96 D) := (fr7 _ (by decide)).trans q29
    have q30 : w5 30 = some (kl_aI G 24 oO) := (fr7 _ (by decide)).trans q30
    have q31 : w5 31 = some (kl_aI G 96 oD) := (fr7 _ (by decide)).trans q31
    have q32 : w5 32 = some (kl_aZ G 24 gn) := (fr7 _ (by decide)).trans q32
    have q33 : w5 33 = some (kl_aI G 7 lch) := (fr7 _ (by decide)).trans q33
    have q34 : w5 34 = some (kl_aI G 7 ((fun t => nI (lco t)))) := (fr7 _ (by decide)).trans q34
    have q35 : w5 35 = some (kl_aI G 7 lpa) := (fr7 _ (by decide)).trans q35
    have q36 : w5 36 = some (kl_aI G 7 lwy) := (fr7 _ (by decide)).trans q36
    have q37 : w5 37 = some (kl_aI G 5 stb) := (fr7 _ (by decide)).trans q37
    have q38 : w5 38 = some (kl_aI G 5 ((fun t => nI (sco t)))) := (fr7 _ (by decide)).trans q38
    have q39 : w5 39 = some (kl_aI G 5 ctb) := (fr7 _ (by decide)).trans q39
    have q40 : w5 40 = some (kl_aI G 5 ((fun t => nI (cln t)))) := (fr7 _ (by decide)).trans q40
    have q41 : w5 41 = some (kl_aI G 50 ((fun t => nI (cw t)))) := (fr7 _ (by decide)).trans q41
    have q43 : w5 43 = some (kl_aI G 12 pl) := (fr7 _ (by decide)).trans q43
    have frm : ∀ j : Nat, j ≠ 26 → j ≠ 28 → j ≠ 29 → j ≠ 30 → j ≠ 31 → j ≠ 32 → j ≠ 43 → w5 j = w j := fun j k0 k1 k2 k3 k4 k5 k6 => (fr7 j k0).trans (frm j k0 k1 k2 k3 k4 k5 k6)
    refine lv_aload_n hx hb dX5_delete_18 rfl (lv_at hl 0 rfl) ?_
    refine kl_get (C := RX5) (T := TX5) (N := 31) (ci := 5) hx hb hts hinX5 hown hK hP f6 rfl 0 (by decide) (hts (.fieldLink RX5 71 "KinLedgerModel" "code" "I") (by decide +kernel)) (fun _ h9 => h9) rfl dX5_delete_19 ?_
    refine kl_z_le (tgt := 27) hx hb (by omega) dX5_delete_22 (by decide) (fun c22 => absurd c22 (by omega)) (fun c22 => ?_)
    refine lv_iconst (v := nI 0) hx hb dX5_delete_25 (by decide) ?_
    exact kl_iret hx hb hr hlocks hP (Or.inl (⟨c7, f6, ⟨⟨_, _, q28, q29, fun _ _ => rfl, fun _ _ => rfl⟩, ⟨_, _, _, _, q30, q31, q32, q43⟩⟩, frm⟩)) dX5_delete_26
  · refine lv_iconst (v := nI 0) hx hb dX5_delete_10 (by decide) ?_
    refine lv_goto (tgt := 15) hx hb dX5_delete_11 (by decide) ?_
    refine kl_put (C := RX5) (T := TX5) (N := 31) (ci := 5) (v := .int (nI 0)) (ty := .int) hx hb hts hinX5 tyX5 tyX5_ok nmX5 hown hK hP q26 rfl 0 (by decide) (hts (.fieldLink RX5 71 "KinLedgerModel" "code" "I") (by decide +kernel)) (fun _ h9 => h9) rfl (by decide +kernel) rfl rfl (Nat.le_of_ble_eq_true rfl) dX5_delete_15 (fun w8 H locs f9 fr10 hzw8 hP => ?_)
    have f9 : w8 26 = some (.inr (5, [.int (nI 0), .int rs, .int (nI nT), .ref (B + 27), .int (nI n), .ref (B + 28), .ref (B + 29), .int (nI on), .ref (B + 30), .ref (B + 31), .ref (B + 32), .int (nI nL), .ref (B + 33), .ref (B + 34), .ref (B + 35), .ref (B + 36), .int (nI nS), .ref (B + 37), .ref (B + 38), .int (nI nC), .ref (B + 39), .ref (B + 40), .ref (B + 41), .int (nI nW), .ref (B + 42), .int hi, .ref (B + 43), .int (nI nM), .ref (B + 44), .ref (B + 45), .ref (B + 46)])) := f9
    have q27 : w8 27 = some (kl_aI G 4 ((fun t => nI (cn t)))) := (fr10 _ (by decide)).trans q27
    have q28 : w8 28 = some (kl_aI G 24 O) := (fr10 _ (by decide)).trans q28
    have q29 : w8 29 = some (kl_aI G 96 D) := (fr10 _ (by decide)).trans q29
    have q30 : w8 30 = some (kl_aI G 24 oO) := (fr10 _ (by decide)).trans q30
    have q31 : w8 31 = some (kl_aI G 96 oD) := (fr10 _ (by decide)).trans q31
    have q32 : w8 32 = some (kl_aZ G 24 gn) := (fr10 _ (by decide)).trans q32
    have q33 : w8 33 = some (kl_aI G 7 lch) := (fr10 _ (by decide)).trans q33
    have q34 : w8 34 = some (kl_aI G 7 ((fun t => nI (lco t)))) := (fr10 _ (by decide)).trans q34
    have q35 : w8 35 = some (kl_aI G 7 lpa) := (fr10 _ (by decide)).trans q35
    have q36 : w8 36 = some (kl_aI G 7 lwy) := (fr10 _ (by decide)).trans q36
    have q37 : w8 37 = some (kl_aI G 5 stb) := (fr10 _ (by decide)).trans q37
    have q38 : w8 38 = some (kl_aI G 5 ((fun t => nI (sco t)))) := (fr10 _ (by decide)).trans q38
    have q39 : w8 39 = some (kl_aI G 5 ctb) := (fr10 _ (by decide)).trans q39
    have q40 : w8 40 = some (kl_aI G 5 ((fun t => nI (cln t)))) := (fr10 _ (by decide)).trans q40
    have q41 : w8 41 = some (kl_aI G 50 ((fun t => nI (cw t)))) := (fr10 _ (by decide)).trans q41
    have q43 : w8 43 = some (kl_aI G 12 pl) := (fr10 _ (by decide)).trans q43
    have frm : ∀ j : Nat, j ≠ 26 → j ≠ 28 → j ≠ 29 → j ≠ 30 → j ≠ 31 → j ≠ 32 → j ≠ 43 → w8 j = w j := fun j k0 k1 k2 k3 k4 k5 k6 => (fr10 j k0).trans (frm j k0 k1 k2 k3 k4 k5 k6)
    refine lv_aload_n hx hb dX5_delete_18 rfl (lv_at hl 0 rfl) ?_
    refine kl_get (C := RX5) (T := TX5) (N := 31) (ci := 5) hx hb hts hinX5 hown hK hP f9 rfl 0 (by decide) (hts (.fieldLink RX5 71 "KinLedgerModel" "code" "I") (by decide +kernel)) (fun _ h9 => h9) rfl dX5_delete_19 ?_
    refine kl_z_le (tgt := 27) hx hb (by omega) dX5_delete_22 (by decide) (fun c22 => ?_) (fun c22 => absurd c22 (by omega))
    have hok := c7
    obtain ⟨jj, q, hjj, htt, hq4, hcq⟩ := c7
    have hq5 := hcn4 jj hjj
    rw [hcq] at hl
    refine lv_aload_n hx hb dX5_delete_27 rfl (lv_at hl 0 rfl) ?_
    refine kl_cVv (C := RX5) (i := 26) (As := []) (rest := []) ⟨hx, hb, hml, hown, hts⟩ (c_X5_remember l G B _ f9 q28 q29 q30 q31 q32 (by omega)) (cwV 0 hts gX5_delete_X5_remember rfl rfl rfl (by decide +kernel) ⟨Nat.le_of_ble_eq_true rfl, Nat.le_of_ble_eq_true rfl⟩) hK hP f9 rfl rfl hl.1 rfl (Nat.le_of_ble_eq_true rfl) dX5_delete_28 ⟨Nat.le_of_ble_eq_true rfl, Nat.le_of_ble_eq_true rfl⟩ (fun w11 H locs q12 hP => ?_)
    obtain ⟨f14, ⟨sO, sD, sG, f15, f16, f17, hsO, hsD⟩, fr18⟩ := q12
    have q27 : w11 27 = some (kl_aI G 4 ((fun t => nI (cn t)))) := (fr18 _ (by decide) (by decide) (by decide) (by decide)).trans q27
    have q28 : w11 28 = some (kl_aI G 24 O) := (fr18 _ (by decide) (by decide) (by decide) (by decide)).trans q28
    have q29 : w11 29 = some (kl_aI G 96 D) := (fr18 _ (by decide) (by decide) (by decide) (by decide)).trans q29
    have q33 : w11 33 = some (kl_aI G 7 lch) := (fr18 _ (by decide) (by decide) (by decide) (by decide)).trans q33
    have q34 : w11 34 = some (kl_aI G 7 ((fun t => nI (lco t)))) := (fr18 _ (by decide) (by decide) (by decide) (by decide)).trans q34
    have q35 : w11 35 = some (kl_aI G 7 lpa) := (fr18 _ (by decide) (by decide) (by decide) (by decide)).trans q35
    have q36 : w11 36 = some (kl_aI G 7 lwy) := (fr18 _ (by decide) (by decide) (by decide) (by decide)).trans q36
    have q37 : w11 37 = some (kl_aI G 5 stb) := (fr18 _ (by decide) (by decide) (by decide) (by decide)).trans q37
    have q38 : w11 38 = some (kl_aI G 5 ((fun t => nI (sco t)))) := (fr18 _ (by decide) (by decide) (by decide) (by decide)).trans q38
    have q39 : w11 39 = some (kl_aI G 5 ctb) := (fr18 _ (by decide) (by decide) (by decide) (by decide)).trans q39
    have q40 : w11 40 = some (kl_aI G 5 ((fun t => nI (cln t)))) := (fr18 _ (by decide) (by decide) (by decide) (by decide)).trans q40
    have q41 : w11 41 = some (kl_aI G 50 ((fun t => nI (cw t)))) := (fr18 _ (by decide) (by decide) (by decide) (by decide)).trans q41
    have q43 : w11 43 = some (kl_aI G 12 pl) := (fr18 _ (by decide) (by decide) (by decide) (by decide)).trans q43
    have f14 : w11 26 = some (.inr (5, [.int (nI 0), .int rs, .int (nI nT), .ref (B + 27), .int (nI n), .ref (B + 28), .ref (B + 29), .int (nI n), .ref (B + 30), .ref (B + 31), .ref (B + 32), .int (nI nL), .ref (B + 33), .ref (B + 34), .ref (B + 35), .ref (B + 36), .int (nI nS), .ref (B + 37), .ref (B + 38), .int (nI nC), .ref (B + 39), .ref (B + 40), .ref (B + 41), .int (nI nW), .ref (B + 42), .int hi, .ref (B + 43), .int (nI nM), .ref (B + 44), .ref (B + 45), .ref (B + 46)])) := f14
    have f15 : w11 30 = some (kl_aI G 24 sO) := f15
    have f16 : w11 31 = some (kl_aI G 96 sD) := f16
    have f17 : w11 32 = some (kl_aZ G 24 sG) := f17
    have frm : ∀ j : Nat, j ≠ 26 → j ≠ 28 → j ≠ 29 → j ≠ 30 → j ≠ 31 → j ≠ 32 → j ≠ 43 → w11 j = w j := fun j k0 k1 k2 k3 k4 k5 k6 => (fr18 j k0 k3 k4 k5).trans (frm j k0 k1 k2 k3 k4 k5 k6)
    refine lv_iconst (v := nI 0) hx hb dX5_delete_31 (by decide) ?_
    refine lv_istore (lv' := [(4, .int (nI 0)), (0, .ref (B + 26)), (1, .int t), (2, .int (nI q)), (3, .int x)]) hx hb dX5_delete_32 hl (by decide) rfl (fun ls hl => ?_)
    have lp34 : ∀ (n34 : Nat) (p : Nat) (g1 : Nat → Int32), n - p < n34 → (p ≤ n) → (∀ a, a < p → mt_mark O D t q x a (g1 a)) → ∀ (w1 : kl_M) (H : Heap) (locs : List Loc), w1 26 = some (.inr (5, [.int (nI 0), .int rs, .int (nI nT), .ref (B + 27), .int (nI n), .ref (B + 28), .ref (B + 29), .int (nI n), .ref (B + 30), .ref (B + 31), .ref (B + 32), .int (nI nL), .ref (B + 33), .ref (B + 34), .ref (B + 35), .ref (B + 36), .int (nI nS), .ref (B + 37), .ref (B + 38), .int (nI nC), .ref (B + 39), .ref (B + 40), .ref (B + 41), .int (nI nW), .ref (B + 42), .int hi, .ref (B + 43), .int (nI nM), .ref (B + 44), .ref (B + 45), .ref (B + 46)])) → w1 27 = some (kl_aI G 4 ((fun t => nI (cn t)))) → w1 28 = some (kl_aI G 24 O) → w1 29 = some (kl_aI G 96 D) → w1 30 = some (kl_aI G 24 sO) → w1 31 = some (kl_aI G 96 sD) → w1 32 = some (kl_aZ G 24 g1) → w1 33 = some (kl_aI G 7 lch) → w1 34 = some (kl_aI G 7 ((fun t => nI (lco t)))) → w1 35 = some (kl_aI G 7 lpa) → w1 36 = some (kl_aI G 7 lwy) → w1 37 = some (kl_aI G 5 stb) → w1 38 = some (kl_aI G 5 ((fun t => nI (sco t)))) → w1 39 = some (kl_aI G 5 ctb) → w1 40 = some (kl_aI G 5 ((fun t => nI (cln t)))) → w1 41 = some (kl_aI G 50 ((fun t => nI (cw t)))) → w1 43 = some (kl_aI G 12 pl) → (∀ j : Nat, j ≠ 26 → j ≠ 28 → j ≠ 29 → j ≠ 30 → j ≠ 31 → j ≠ 32 → j ≠ 43 → w1 j = w j) → kl_S G B w1 s.heap H locs → ∀ ls : Array Slot, lv_has ls 8 [(0, .ref (B + 26)), (1, .int t), (2, .int (nI q)), (3, .int x), (4, .int (nI p))] → W pg l e rm_X5_delete s m ([.ref (B + 26), .int t, .int c, .int x] : List Value).toArray below meth cd H locs (0 + 0 + 0) (0 + 0 + 0) (MQ below (kl_Qi G B (fun r w1 => (¬ mt_col t c nT cn ∧ w1 26 = some (.inr (5, [.int (nI 1), .int rs, .int (nI nT), .ref (B + 27), .int (nI n), .ref (B + 28), .ref (B + 29), .int (nI on), .ref (B + 30), .ref (B + 31), .ref (B + 32), .int (nI nL), .ref (B + 33), .ref (B + 34), .ref (B + 35), .ref (B + 36), .int (nI nS), .ref (B + 37), .ref (B + 38), .int (nI nC), .ref (B + 39), .ref (B + 40), .ref (B + 41), .int (nI nW), .ref (B + 42), .int hi, .ref (B + 43), .int (nI nM), .ref (B + 44), .ref (B + 45), .ref (B + 46)])) ∧ md_sm G w1 n O D ∧ ∀ j : Nat, j ≠ 26 → j ≠ 28 → j ≠ 29 → j ≠ 30 → j ≠ 31 → j ≠ 32 → j ≠ 43 → w1 j = w j) ∨ (mt_col t c nT cn ∧ ∃ (q : Nat) (g1 g2 sO sD D1 : Nat → Int32) (kp : Int32) (y : Nat) (O3 D3 : Nat → Int32), q < 4 ∧ c = nI q ∧ (∀ p, p < n → sO p = O p) ∧ (∀ k, k < 4 * n → sD k = D k) ∧ (∀ p, p < n → mt_mark O D t q x p (g1 p)) ∧ mt_from (md_T n sO) sD nL lch lco lpa lwy g1 g2 ∧ (∀ l p, p < 24 → l < nL → mt_chk (md_T n sO) sD g2 lch lco lpa lwy l p) ∧ mt_wr n (fun l _ => l < nL) (fun l p => lwy l = nI 2 ∧ g2 p = 0 ∧ mt_lost (md_T n sO) sD g2 (lch l) (lco l) (lpa l) p) lco (fun _ => nI 0) D D1 ∧ mt_kp n (fun l _ => l < nL) (fun l p => lwy l = 0 ∧ g2 p = 0 ∧ mt_lost (md_T n sO) sD g2 (lch l) (lco l) (lpa l) p) kp ∧ md_wy kp y ∧ md_cp g2 O D1 n O3 D3 ∧ r = nI (n - md_st g2 n) ∧ md_sw y (mt_why (md_T (md_st g2 n) O3) D3 nT nS stb sco nL lch lco lpa nC ctb (fun j i => cw (10 * j + i)) cln) (nI 0) ∧ (∃ h2 on2, w1 26 = some (.inr (5, [.int (nI 0), .int rs, .int (nI nT), .ref (B + 27), .int (nI (md_st g2 n)), .ref (B + 28), .ref (B + 29), .int (nI on2), .ref (B + 30), .ref (B + 31), .ref (B + 32), .int (nI nL), .ref (B + 33), .ref (B + 34), .ref (B + 35), .ref (B + 36), .int (nI nS), .ref (B + 37), .ref (B + 38), .int (nI nC), .ref (B + 39), .ref (B + 40), .ref (B + 41), .int (nI nW), .ref (B + 42), .int h2, .ref (B + 43), .int (nI nM), .ref (B + 44), .ref (B + 45), .ref (B + 46)]))) ∧ w1 28 = some (kl_aI G 24 O3) ∧ w1 29 = some (kl_aI G 96 D3) ∧ md_jk G w1 ∧ ∀ j : Nat, j ≠ 26 → j ≠ 28 → j ≠ 29 → j ≠ 30 → j ≠ 31 → j ≠ 32 → j ≠ 43 → w1 j = w j) ∨ (mt_col t c nT cn ∧ ∃ (q : Nat) (g1 g2 sO sD D1 : Nat → Int32) (kp : Int32) (y : Nat) (O3 D3 : Nat → Int32), q < 4 ∧ c = nI q ∧ (∀ p, p < n → sO p = O p) ∧ (∀ k, k < 4 * n → sD k = D k) ∧ (∀ p, p < n → mt_mark O D t q x p (g1 p)) ∧ mt_from (md_T n sO) sD nL lch lco lpa lwy g1 g2 ∧ (∀ l p, p < 24 → l < nL → mt_chk (md_T n sO) sD g2 lch lco lpa lwy l p) ∧ mt_wr n (fun l _ => l < nL) (fun l p => lwy l = nI 2 ∧ g2 p = 0 ∧ mt_lost (md_T n sO) sD g2 (lch l) (lco l) (lpa l) p) lco (fun _ => nI 0) D D1 ∧ mt_kp n (fun l _ => l < nL) (fun l p => lwy l = 0 ∧ g2 p = 0 ∧ mt_lost (md_T n sO) sD g2 (lch l) (lco l) (lpa l) p) kp ∧ md_wy kp y ∧ md_cp g2 O D1 n O3 D3 ∧ ∃ y2, y2 ≠ 0 ∧ md_sw y (mt_why (md_T (md_st g2 n) O3) D3 nT nS stb sco nL lch lco lpa nC ctb (fun j i => cw (10 * j + i)) cln) y2 ∧ (∃ h2 on2, w1 26 = some (.inr (5, [.int (nI 2), .int y2, .int (nI nT), .ref (B + 27), .int (nI n), .ref (B + 28), .ref (B + 29), .int (nI on2), .ref (B + 30), .ref (B + 31), .ref (B + 32), .int (nI nL), .ref (B + 33), .ref (B + 34), .ref (B + 35), .ref (B + 36), .int (nI nS), .ref (B + 37), .ref (B + 38), .int (nI nC), .ref (B + 39), .ref (B + 40), .ref (B + 41), .int (nI nW), .ref (B + 42), .int h2, .ref (B + 43), .int (nI nM), .ref (B + 44), .ref (B + 45), .ref (B + 46)]))) ∧ md_sm G w1 n O D ∧ ∀ j : Nat, j ≠ 26 → j ≠ 28 → j ≠ 29 → j ≠ 30 → j ≠ 31 → j ≠ 32 → j ≠ 43 → w1 j = w j))) ([.ref (B + 26), .int t, .int c, .int x] : List Value).toArray s 0 0 (kl_fr B)) (F0 m 34 ls []) := by
      intro n34
      induction n34 with
      | zero => intro p g1 hm; exact absurd hm (Nat.not_lt_zero _)
      | succ n34 ih34 =>
        intro p g1 hm hp hg w1 H locs f14 q27 q28 q29 f15 f16 f17 q33 q34 q35 q36 q37 q38 q39 q40 q41 q43 frm hP ls hl
        refine lv_iload hx hb dX5_delete_34 (lv_at hl 4 rfl) ?_
        refine lv_aload_n hx hb dX5_delete_36 rfl (lv_at hl 0 rfl) ?_
        refine kl_get (C := RX5) (T := TX5) (N := 31) (ci := 5) hx hb hts hinX5 hown hK hP f14 rfl 4 (by decide) (hts (.fieldLink RX5 82 "KinLedgerModel" "rows" "I") (by decide +kernel)) (fun _ h9 => h9) rfl dX5_delete_37 ?_
        refine kl_ge (tgt := 87) hx hb (by omega) (by omega) dX5_delete_40 (by decide) (fun c40 => ?_) (fun c40 => ?_)
        · have hmk : ∀ a, a < n → mt_mark O D t q x a (g1 a) := fun a ha => hg a (by omega)
          refine lv_aload_n hx hb dX5_delete_87 rfl (lv_at hl 0 rfl) ?_
          refine kl_cVv (C := RX5) (i := 26) (As := []) (rest := []) ⟨hx, hb, hml, hown, hts⟩ (c_X5_spread l G B _ f14 f15 f16 f17 q33 q34 q35 q36 (by omega) (by omega) hrl) (cwV 0 hts gX5_delete_X5_spread rfl rfl rfl (by decide +kernel) ⟨Nat.le_of_ble_eq_true rfl, Nat.le_of_ble_eq_true rfl⟩) hK hP f14 rfl rfl hl.1 rfl (Nat.le_of_ble_eq_true rfl) dX5_delete_88 ⟨Nat.le_of_ble_eq_true rfl, Nat.le_of_ble_eq_true rfl⟩ (fun w19 H locs q20 hP => ?_)
          obtain ⟨⟨gz, f22, hfrom, hchk⟩, fr23⟩ := q20
          have f14 : w19 26 = some (.inr (5, [.int (nI 0), .int rs, .int (nI nT), .ref (B + 27), .int (nI n), .ref (B + 28), .ref (B + 29), .int (nI n), .ref (B + 30), .ref (B + 31), .ref (B + 32), .int (nI nL), .ref (B + 33), .ref (B + 34), .ref (B + 35), .ref (B + 36), .int (nI nS), .ref (B + 37), .ref (B + 38), .int (nI nC), .ref (B + 39), .ref (B + 40), .ref (B + 41), .int (nI nW), .ref (B + 42), .int hi, .ref (B + 43), .int (nI nM), .ref (B + 44), .ref (B + 45), .ref (B + 46)])) := (fr23 _ (by decide)).trans f14
          have q27 : w19 27 = some (kl_aI G 4 ((fun t => nI (cn t)))) := (fr23 _ (by decide)).trans q27
          have q28 : w19 28 = some (kl_aI G 24 O) := (fr23 _ (by decide)).trans q28
          have q29 : w19 29 = some (kl_aI G 96 D) := (fr23 _ (by decide)).trans q29
          have f15 : w19 30 = some (kl_aI G 24 sO) := (fr23 _ (by decide)).trans f15
          have f16 : w19 31 = some (kl_aI G 96 sD) := (fr23 _ (by decide)).trans f16
          have q33 : w19 33 = some (kl_aI G 7 lch) := (fr23 _ (by decide)).trans q33
          have q34 : w19 34 = some (kl_aI G 7 ((fun t => nI (lco t)))) := (fr23 _ (by decide)).trans q34
          have q35 : w19 35 = some (kl_aI G 7 lpa) := (fr23 _ (by decide)).trans q35
          have q36 : w19 36 = some (kl_aI G 7 lwy) := (fr23 _ (by decide)).trans q36
          have q37 : w19 37 = some (kl_aI G 5 stb) := (fr23 _ (by decide)).trans q37
          have q38 : w19 38 = some (kl_aI G 5 ((fun t => nI (sco t)))) := (fr23 _ (by decide)).trans q38
          have q39 : w19 39 = some (kl_aI G 5 ctb) := (fr23 _ (by decide)).trans q39
          have q40 : w19 40 = some (kl_aI G 5 ((fun t => nI (cln t)))) := (fr23 _ (by decide)).trans q40
          have q41 : w19 41 = some (kl_aI G 50 ((fun t => nI (cw t)))) := (fr23 _ (by decide)).trans q41
          have q43 : w19 43 = some (kl_aI G 12 pl) := (fr23 _ (by decide)).trans q43
          have frm : ∀ j : Nat, j ≠ 26 → j ≠ 28 → j ≠ 29 → j ≠ 30 → j ≠ 31 → j ≠ 32 → j ≠ 43 → w19 j = w j := fun j k0 k1 k2 k3 k4 k5 k6 => (fr23 j k5).trans (frm j k0 k1 k2 k3 k4 k5 k6)
          refine lv_aload_n hx hb dX5_delete_91 rfl (lv_at hl 0 rfl) ?_
          refine kl_cVi (C := RX5) (i := 26) (As := []) (rest := []) ⟨hx, hb, hml, hown, hts⟩ (c_X5_loosen l G B _ f14 q29 f15 f16 f22 q33 q34 q35 q36 (by omega) (by omega) hrl) (cwV 0 hts gX5_delete_X5_loosen rfl rfl rfl (by decide +kernel) ⟨Nat.le_of_ble_eq_true rfl, Nat.le_of_ble_eq_true rfl⟩) hK hP f14 rfl rfl hl.1 rfl (Nat.le_of_ble_eq_true rfl) dX5_delete_92 ⟨Nat.le_of_ble_eq_true rfl, Nat.le_of_ble_eq_true rfl⟩ (fun r26 w24 H locs q25 hP => ?_)
          obtain ⟨d1, kp, y, rfl, f27, hwy, hwr, hkp, fr28⟩ := q25
          have hyl := hwy.le
          have f14 : w24 26 = some (.inr (5, [.int (nI 0), .int rs, .int (nI nT), .ref (B + 27), .int (nI n), .ref (B + 28), .ref (B + 29), .int (nI n), .ref (B + 30), .ref (B + 31), .ref (B + 32), .int (nI nL), .ref (B + 33), .ref (B + 34), .ref (B + 35), .ref (B + 36), .int (nI nS), .ref (B + 37), .ref (B + 38), .int (nI nC), .ref (B + 39), .ref (B + 40), .ref (B + 41), .int (nI nW), .ref (B + 42), .int hi, .ref (B + 43), .int (nI nM), .ref (B + 44), .ref (B + 45), .ref (B + 46)])) := (fr28 _ (by decide)).trans f14
          have q27 : w24 27 = some (kl_aI G 4 ((fun t => nI (cn t)))) := (fr28 _ (by decide)).trans q27
          have q28 : w24 28 = some (kl_aI G 24 O) := (fr28 _ (by decide)).trans q28
          have f15 : w24 30 = some (kl_aI G 24 sO) := (fr28 _ (by decide)).trans f15
          have f16 : w24 31 = some (kl_aI G 96 sD) := (fr28 _ (by decide)).trans f16
          have f22 : w24 32 = some (kl_aZ G 24 gz) := (fr28 _ (by decide)).trans f22
          have q33 : w24 33 = some (kl_aI G 7 lch) := (fr28 _ (by decide)).trans q33
          have q34 : w24 34 = some (kl_aI G 7 ((fun t => nI (lco t)))) := (fr28 _ (by decide)).trans q34
          have q35 : w24 35 = some (kl_aI G 7 lpa) := (fr28 _ (by decide)).trans q35
          have q36 : w24 36 = some (kl_aI G 7 lwy) := (fr28 _ (by decide)).trans q36
          have q37 : w24 37 = some (kl_aI G 5 stb) := (fr28 _ (by decide)).trans q37
          have q38 : w24 38 = some (kl_aI G 5 ((fun t => nI (sco t)))) := (fr28 _ (by decide)).trans q38
          have q39 : w24 39 = some (kl_aI G 5 ctb) := (fr28 _ (by decide)).trans q39
          have q40 : w24 40 = some (kl_aI G 5 ((fun t => nI (cln t)))) := (fr28 _ (by decide)).trans q40
          have q41 : w24 41 = some (kl_aI G 50 ((fun t => nI (cw t)))) := (fr28 _ (by decide)).trans q41
          have q43 : w24 43 = some (kl_aI G 12 pl) := (fr28 _ (by decide)).trans q43
          have frm : ∀ j : Nat, j ≠ 26 → j ≠ 28 → j ≠ 29 → j ≠ 30 → j ≠ 31 → j ≠ 32 → j ≠ 43 → w24 j = w j := fun j k0 k1 k2 k3 k4 k5 k6 => (fr28 j k2).trans (frm j k0 k1 k2 k3 k4 k5 k6)
          refine lv_istore (lv' := [(4, .int (nI y)), (0, .ref (B + 26)), (1, .int t), (2, .int (nI q)), (3, .int x)]) hx hb dX5_delete_95 hl (by decide) rfl (fun ls hl => ?_)
          refine lv_iconst (v := nI 0) hx hb dX5_delete_97 (by decide) ?_
          refine lv_istore (lv' := [(5, .int (nI 0)), (4, .int (nI y)), (0, .ref (B + 26)), (1, .int t), (2, .int (nI q)), (3, .int x)]) hx hb dX5_delete_98 hl (by decide) rfl (fun ls hl => ?_)
          refine lv_iconst (v := nI 0) hx hb dX5_delete_100 (by decide) ?_
          refine lv_istore (lv' := [(6, .int (nI 0)), (5, .int (nI 0)), (4, .int (nI y)), (0, .ref (B + 26)), (1, .int t), (2, .int (nI q)), (3, .int x)]) hx hb dX5_delete_101 hl (by decide) rfl (fun ls hl => ?_)
          have lp103 : ∀ (n103 : Nat) (r9 : Nat) (a9 : Nat) (O3 : Nat → Int32) (D3 : Nat → Int32), n - r9 < n103 → (r9 ≤ n) → (a9 = md_st gz r9) → (md_cp gz O d1 r9 O3 D3) → ∀ (w1 : kl_M) (H : Heap) (locs : List Loc), w1 26 = some (.inr (5, [.int (nI 0), .int rs, .int (nI nT), .ref (B + 27), .int (nI n), .ref (B + 28), .ref (B + 29), .int (nI n), .ref (B + 30), .ref (B + 31), .ref (B + 32), .int (nI nL), .ref (B + 33), .ref (B + 34), .ref (B + 35), .ref (B + 36), .int (nI nS), .ref (B + 37), .ref (B + 38), .int (nI nC), .ref (B + 39), .ref (B + 40), .ref (B + 41), .int (nI nW), .ref (B + 42), .int hi, .ref (B + 43), .int (nI nM), .ref (B + 44), .ref (B + 45), .ref (B + 46)])) → w1 27 = some (kl_aI G 4 ((fun t => nI (cn t)))) → w1 28 = some (kl_aI G 24 O3) → w1 29 = some (kl_aI G 96 D3) → w1 30 = some (kl_aI G 24 sO) → w1 31 = some (kl_aI G 96 sD) → w1 32 = some (kl_aZ G 24 gz) → w1 33 = some (kl_aI G 7 lch) → w1 34 = some (kl_aI G 7 ((fun t => nI (lco t)))) → w1 35 = some (kl_aI G 7 lpa) → w1 36 = some (kl_aI G 7 lwy) → w1 37 = some (kl_aI G 5 stb) → w1 38 = some (kl_aI G 5 ((fun t => nI (sco t)))) → w1 39 = some (kl_aI G 5 ctb) → w1 40 = some (kl_aI G 5 ((fun t => nI (cln t)))) → w1 41 = some (kl_aI G 50 ((fun t => nI (cw t)))) → w1 43 = some (kl_aI G 12 pl) → (∀ j : Nat, j ≠ 26 → j ≠ 28 → j ≠ 29 → j ≠ 30 → j ≠ 31 → j ≠ 32 → j ≠ 43 → w1 j = w j) → kl_S G B w1 s.heap H locs → ∀ ls : Array Slot, lv_has ls 8 [(0, .ref (B + 26)), (4, .int (nI y)), (5, .int (nI a9)), (6, .int (nI r9))] → W pg l e rm_X5_delete s m ([.ref (B + 26), .int t, .int c, .int x] : List Value).toArray below meth cd H locs (0 + 0 + 0 + 0 + 0) (0 + 0 + 0 + 0 + 0) (MQ below (kl_Qi G B (fun r w1 => (¬ mt_col t c nT cn ∧ w1 26 = some (.inr (5, [.int (nI 1), .int rs, .int (nI nT), .ref (B + 27), .int (nI n), .ref (B + 28), .ref (B + 29), .int (nI on), .ref (B + 30), .ref (B + 31), .ref (B + 32), .int (nI nL), .ref (B + 33), .ref (B + 34), .ref (B + 35), .ref (B + 36), .int (nI nS), .ref (B + 37), .ref (B + 38), .int (nI nC), .ref (B + 39), .ref (B + 40), .ref (B + 41), .int (nI nW), .ref (B + 42), .int hi, .ref (B + 43), .int (nI nM), .ref (B + 44), .ref (B + 45), .ref (B + 46)])) ∧ md_sm G w1 n O D ∧ ∀ j : Nat, j ≠ 26 → j ≠ 28 → j ≠ 29 → j ≠ 30 → j ≠ 31 → j ≠ 32 → j ≠ 43 → w1 j = w j) ∨ (mt_col t c nT cn ∧ ∃ (q : Nat) (g1 g2 sO sD D1 : Nat → Int32) (kp : Int32) (y : Nat) (O3 D3 : Nat → Int32), q < 4 ∧ c = nI q ∧ (∀ p, p < n → sO p = O p) ∧ (∀ k, k < 4 * n → sD k = D k) ∧ (∀ p, p < n → mt_mark O D t q x p (g1 p)) ∧ mt_from (md_T n sO) sD nL lch lco lpa lwy g1 g2 ∧ (∀ l p, p < 24 → l < nL → mt_chk (md_T n sO) sD g2 lch lco lpa lwy l p) ∧ mt_wr n (fun l _ => l < nL) (fun l p => lwy l = nI 2 ∧ g2 p = 0 ∧ mt_lost (md_T n sO) sD g2 (lch l) (lco l) (lpa l) p) lco (fun _ => nI 0) D D1 ∧ mt_kp n (fun l _ => l < nL) (fun l p => lwy l = 0 ∧ g2 p = 0 ∧ mt_lost (md_T n sO) sD g2 (lch l) (lco l) (lpa l) p) kp ∧ md_wy kp y ∧ md_cp g2 O D1 n O3 D3 ∧ r = nI (n - md_st g2 n) ∧ md_sw y (mt_why (md_T (md_st g2 n) O3) D3 nT nS stb sco nL lch lco lpa nC ctb (fun j i => cw (10 * j + i)) cln) (nI 0) ∧ (∃ h2 on2, w1 26 = some (.inr (5, [.int (nI 0), .int rs, .int (nI nT), .ref (B + 27), .int (nI (md_st g2 n)), .ref (B + 28), .ref (B + 29), .int (nI on2), .ref (B + 30), .ref (B + 31), .ref (B + 32), .int (nI nL), .ref (B + 33), .ref (B + 34), .ref (B + 35), .ref (B + 36), .int (nI nS), .ref (B + 37), .ref (B + 38), .int (nI nC), .ref (B + 39), .ref (B + 40), .ref (B + 41), .int (nI nW), .ref (B + 42), .int h2, .ref (B + 43), .int (nI nM), .ref (B + 44), .ref (B + 45), .ref (B + 46)]))) ∧ w1 28 = some (kl_aI G 24 O3) ∧ w1 29 = some (kl_aI G 96 D3) ∧ md_jk G w1 ∧ ∀ j : Nat, j ≠ 26 → j ≠ 28 → j ≠ 29 → j ≠ 30 → j ≠ 31 → j ≠ 32 → j ≠ 43 → w1 j = w j) ∨ (mt_col t c nT cn ∧ ∃ (q : Nat) (g1 g2 sO sD D1 : Nat → Int32) (kp : Int32) (y : Nat) (O3 D3 : Nat → Int32), q < 4 ∧ c = nI q ∧ (∀ p, p < n → sO p = O p) ∧ (∀ k, k < 4 * n → sD k = D k) ∧ (∀ p, p < n → mt_mark O D t q x p (g1 p)) ∧ mt_from (md_T n sO) sD nL lch lco lpa lwy g1 g2 ∧ (∀ l p, p < 24 → l < nL → mt_chk (md_T n sO) sD g2 lch lco lpa lwy l p) ∧ mt_wr n (fun l _ => l < nL) (fun l p => lwy l = nI 2 ∧ g2 p = 0 ∧ mt_lost (md_T n sO) sD g2 (lch l) (lco l) (lpa l) p) lco (fun _ => nI 0) D D1 ∧ mt_kp n (fun l _ => l < nL) (fun l p => lwy l = 0 ∧ g2 p = 0 ∧ mt_lost (md_T n sO) sD g2 (lch l) (lco l) (lpa l) p) kp ∧ md_wy kp y ∧ md_cp g2 O D1 n O3 D3 ∧ ∃ y2, y2 ≠ 0 ∧ md_sw y (mt_why (md_T (md_st g2 n) O3) D3 nT nS stb sco nL lch lco lpa nC ctb (fun j i => cw (10 * j + i)) cln) y2 ∧ (∃ h2 on2, w1 26 = some (.inr (5, [.int (nI 2), .int y2, .int (nI nT), .ref (B + 27), .int (nI n), .ref (B + 28), .ref (B + 29), .int (nI on2), .ref (B + 30), .ref (B + 31), .ref (B + 32), .int (nI nL), .ref (B + 33), .ref (B + 34), .ref (B + 35), .ref (B + 36), .int (nI nS), .ref (B + 37), .ref (B + 38), .int (nI nC), .ref (B + 39), .ref (B + 40), .ref (B + 41), .int (nI nW), .ref (B + 42), .int h2, .ref (B + 43), .int (nI nM), .ref (B + 44), .ref (B + 45), .ref (B + 46)]))) ∧ md_sm G w1 n O D ∧ ∀ j : Nat, j ≠ 26 → j ≠ 28 → j ≠ 29 → j ≠ 30 → j ≠ 31 → j ≠ 32 → j ≠ 43 → w1 j = w j))) ([.ref (B + 26), .int t, .int c, .int x] : List Value).toArray s 0 0 (kl_fr B)) (F0 m 103 ls []) := by
            intro n103
            induction n103 with
            | zero => intro r9 a9 O3 D3 hm; exact absurd hm (Nat.not_lt_zero _)
            | succ n103 ih103 =>
              intro r9 a9 O3 D3 hm hr9 ha hcp w1 H locs f14 q27 q28 f27 f15 f16 f22 q33 q34 q35 q36 q37 q38 q39 q40 q41 q43 frm hP ls hl
              refine lv_iload hx hb dX5_delete_103 (lv_at hl 3 rfl) ?_
              refine lv_aload_n hx hb dX5_delete_105 rfl (lv_at hl 0 rfl) ?_
              refine kl_get (C := RX5) (T := TX5) (N := 31) (ci := 5) hx hb hts hinX5 hown hK hP f14 rfl 7 (by decide) (hts (.fieldLink RX5 130 "KinLedgerModel" "oldRows" "I") (by decide +kernel)) (fun _ h9 => h9) rfl dX5_delete_106 ?_
              refine kl_ge (tgt := 184) hx hb (by omega) (by omega) dX5_delete_109 (by decide) (fun c109 => ?_) (fun c109 => ?_)
              · have hcpn : md_cp gz O d1 n O3 D3 := by rw [show n = r9 by omega]; exact hcp
                have ha9 : a9 = md_st gz n := by rw [show n = r9 by omega]; exact ha
                have hsl : md_st gz n ≤ n := md_st_le
                subst ha9
                refine lv_aload_n hx hb dX5_delete_184 rfl (lv_at hl 0 rfl) ?_
                refine lv_iload hx hb dX5_delete_185 (lv_at hl 2 rfl) ?_
                refine kl_put (C := RX5) (T := TX5) (N := 31) (ci := 5) (v := .int (nI (md_st gz n))) (ty := .int) hx hb hts hinX5 tyX5 tyX5_ok nmX5 hown hK hP f14 rfl 4 (by decide) (hts (.fieldLink RX5 82 "KinLedgerModel" "rows" "I") (by decide +kernel)) (fun _ h9 => h9) rfl (by decide +kernel) rfl rfl (Nat.le_of_ble_eq_true rfl) dX5_delete_187 (fun w29 H locs f30 fr31 hzw29 hP => ?_)
                have f30 : w29 26 = some (.inr (5, [.int (nI 0), .int rs, .int (nI nT), .ref (B + 27), .int (nI (md_st gz n)), .ref (B + 28), .ref (B + 29), .int (nI n), .ref (B + 30), .ref (B + 31), .ref (B + 32), .int (nI nL), .ref (B + 33), .ref (B + 34), .ref (B + 35), .ref (B + 36), .int (nI nS), .ref (B + 37), .ref (B + 38), .int (nI nC), .ref (B + 39), .ref (B + 40), .ref (B + 41), .int (nI nW), .ref (B + 42), .int hi, .ref (B + 43), .int (nI nM), .ref (B + 44), .ref (B + 45), .ref (B + 46)])) := f30
                have q27 : w29 27 = some (kl_aI G 4 ((fun t => nI (cn t)))) := (fr31 _ (by decide)).trans q27
                have q28 : w29 28 = some (kl_aI G 24 O3) := (fr31 _ (by decide)).trans q28
                have f27 : w29 29 = some (kl_aI G 96 D3) := (fr31 _ (by decide)).trans f27
                have f15 : w29 30 = some (kl_aI G 24 sO) := (fr31 _ (by decide)).trans f15
                have f16 : w29 31 = some (kl_aI G 96 sD) := (fr31 _ (by decide)).trans f16
                have f22 : w29 32 = some (kl_aZ G 24 gz) := (fr31 _ (by decide)).trans f22
                have q33 : w29 33 = some (kl_aI G 7 lch) := (fr31 _ (by decide)).trans q33
                have q34 : w29 34 = some (kl_aI G 7 ((fun t => nI (lco t)))) := (fr31 _ (by decide)).trans q34
                have q35 : w29 35 = some (kl_aI G 7 lpa) := (fr31 _ (by decide)).trans q35
                have q36 : w29 36 = some (kl_aI G 7 lwy) := (fr31 _ (by decide)).trans q36
                have q37 : w29 37 = some (kl_aI G 5 stb) := (fr31 _ (by decide)).trans q37
                have q38 : w29 38 = some (kl_aI G 5 ((fun t => nI (sco t)))) := (fr31 _ (by decide)).trans q38
                have q39 : w29 39 = some (kl_aI G 5 ctb) := (fr31 _ (by decide)).trans q39
                have q40 : w29 40 = some (kl_aI G 5 ((fun t => nI (cln t)))) := (fr31 _ (by decide)).trans q40
                have q41 : w29 41 = some (kl_aI G 50 ((fun t => nI (cw t)))) := (fr31 _ (by decide)).trans q41
                have q43 : w29 43 = some (kl_aI G 12 pl) := (fr31 _ (by decide)).trans q43
                have frm : ∀ j : Nat, j ≠ 26 → j ≠ 28 → j ≠ 29 → j ≠ 30 → j ≠ 31 → j ≠ 32 → j ≠ 43 → w29 j = w j := fun j k0 k1 k2 k3 k4 k5 k6 => (fr31 j k0).trans (frm j k0 k1 k2 k3 k4 k5 k6)
                refine lv_aload_n hx hb dX5_delete_190 rfl (lv_at hl 0 rfl) ?_
                refine lv_aload_n hx hb dX5_delete_191 rfl (lv_at hl 0 rfl) ?_
                refine lv_iload hx hb dX5_delete_192 (lv_at hl 1 rfl) ?_
                refine lv_iconst (v := nI 2) hx hb dX5_delete_194 (by decide) ?_
                refine kl_cVi (C := RX5) (i := 26) (As := [.int (nI y), .int (nI 2)]) (rest := [.ref (B + 26)]) ⟨hx, hb, hml, hown, hts⟩ (c_X5_settle l G B _ ccol y 2 f30 q28 f27 f15 f16 q33 q34 q35 q36 q37 q38 q39 q40 q41 q43 ⟨by omega, by omega, by omega, by omega, by omega⟩ hrp (by omega) (by omega) (by omega)) (cwV 2 hts gX5_delete_X5_settle rfl rfl rfl (by decide +kernel) ⟨Nat.le_of_ble_eq_true rfl, Nat.le_of_ble_eq_true rfl⟩) hK hP f30 rfl rfl hl.1 rfl (Nat.le_of_ble_eq_true rfl) dX5_delete_195 ⟨Nat.le_of_ble_eq_true rfl, Nat.le_of_ble_eq_true rfl⟩ (fun r34 w32 H locs q33 hP => ?_)
                rcases q33 with ⟨hsw, rfl, ⟨h9, f35⟩, f36, f37, ⟨p9, f38⟩, fr39⟩ | ⟨y2, hy0, hsw, rfl, ⟨h9, f35⟩, ⟨O2, D2, f36, f37, hO2, hD2⟩, ⟨p9, f38⟩, fr39⟩
                · have q27 : w32 27 = some (kl_aI G 4 ((fun t => nI (cn t)))) := (fr39 _ (by decide) (by decide) (by decide) (by decide)).trans q27
                  have f15 : w32 30 = some (kl_aI G 24 sO) := (fr39 _ (by decide) (by decide) (by decide) (by decide)).trans f15
                  have f16 : w32 31 = some (kl_aI G 96 sD) := (fr39 _ (by decide) (by decide) (by decide) (by decide)).trans f16
                  have f22 : w32 32 = some (kl_aZ G 24 gz) := (fr39 _ (by decide) (by decide) (by decide) (by decide)).trans f22
                  have q33 : w32 33 = some (kl_aI G 7 lch) := (fr39 _ (by decide) (by decide) (by decide) (by decide)).trans q33
                  have q34 : w32 34 = some (kl_aI G 7 ((fun t => nI (lco t)))) := (fr39 _ (by decide) (by decide) (by decide) (by decide)).trans q34
                  have q35 : w32 35 = some (kl_aI G 7 lpa) := (fr39 _ (by decide) (by decide) (by decide) (by decide)).trans q35
                  have q36 : w32 36 = some (kl_aI G 7 lwy) := (fr39 _ (by decide) (by decide) (by decide) (by decide)).trans q36
                  have q37 : w32 37 = some (kl_aI G 5 stb) := (fr39 _ (by decide) (by decide) (by decide) (by decide)).trans q37
                  have q38 : w32 38 = some (kl_aI G 5 ((fun t => nI (sco t)))) := (fr39 _ (by decide) (by decide) (by decide) (by decide)).trans q38
                  have q39 : w32 39 = some (kl_aI G 5 ctb) := (fr39 _ (by decide) (by decide) (by decide) (by decide)).trans q39
                  have q40 : w32 40 = some (kl_aI G 5 ((fun t => nI (cln t)))) := (fr39 _ (by decide) (by decide) (by decide) (by decide)).trans q40
                  have q41 : w32 41 = some (kl_aI G 50 ((fun t => nI (cw t)))) := (fr39 _ (by decide) (by decide) (by decide) (by decide)).trans q41
                  have f35 : w32 26 = some (.inr (5, [.int (nI 0), .int rs, .int (nI nT), .ref (B + 27), .int (nI (md_st gz n)), .ref (B + 28), .ref (B + 29), .int (nI n), .ref (B + 30), .ref (B + 31), .ref (B + 32), .int (nI nL), .ref (B + 33), .ref (B + 34), .ref (B + 35), .ref (B + 36), .int (nI nS), .ref (B + 37), .ref (B + 38), .int (nI nC), .ref (B + 39), .ref (B + 40), .ref (B + 41), .int (nI nW), .ref (B + 42), .int h9, .ref (B + 43), .int (nI nM), .ref (B + 44), .ref (B + 45), .ref (B + 46)])) := f35
                  have f36 : w32 28 = some (kl_aI G 24 O3) := f36
                  have f37 : w32 29 = some (kl_aI G 96 D3) := f37
                  have f38 : w32 43 = some (kl_aI G 12 p9) := f38
                  have frm : ∀ j : Nat, j ≠ 26 → j ≠ 28 → j ≠ 29 → j ≠ 30 → j ≠ 31 → j ≠ 32 → j ≠ 43 → w32 j = w j := fun j k0 k1 k2 k3 k4 k5 k6 => (fr39 j k0 k1 k2 k6).trans (frm j k0 k1 k2 k3 k4 k5 k6)
                  refine kl_put (C := RX5) (T := TX5) (N := 31) (ci := 5) (v := .int (nI 0)) (ty := .int) hx hb hts hinX5 tyX5 tyX5_ok nmX5 hown hK hP f35 rfl 0 (by decide) (hts (.fieldLink RX5 71 "KinLedgerModel" "code" "I") (by decide +kernel)) (fun _ h9 => h9) rfl (by decide +kernel) rfl rfl (Nat.le_of_ble_eq_true rfl) dX5_delete_198 (fun w40 H locs f41 fr42 hzw40 hP => ?_)
                  have f41 : w40 26 = some (.inr (5, [.int (nI 0), .int rs, .int (nI nT), .ref (B + 27), .int (nI (md_st gz n)), .ref (B + 28), .ref (B + 29), .int (nI n), .ref (B + 30), .ref (B + 31), .ref (B + 32), .int (nI nL), .ref (B + 33), .ref (B + 34), .ref (B + 35), .ref (B + 36), .int (nI nS), .ref (B + 37), .ref (B + 38), .int (nI nC), .ref (B + 39), .ref (B + 40), .ref (B + 41), .int (nI nW), .ref (B + 42), .int h9, .ref (B + 43), .int (nI nM), .ref (B + 44), .ref (B + 45), .ref (B + 46)])) := f41
                  have q27 : w40 27 = some (kl_aI G 4 ((fun t => nI (cn t)))) := (fr42 _ (by decide)).trans q27
                  have f36 : w40 28 = some (kl_aI G 24 O3) := (fr42 _ (by decide)).trans f36
                  have f37 : w40 29 = some (kl_aI G 96 D3) := (fr42 _ (by decide)).trans f37
                  have f15 : w40 30 = some (kl_aI G 24 sO) := (fr42 _ (by decide)).trans f15
                  have f16 : w40 31 = some (kl_aI G 96 sD) := (fr42 _ (by decide)).trans f16
                  have f22 : w40 32 = some (kl_aZ G 24 gz) := (fr42 _ (by decide)).trans f22
                  have q33 : w40 33 = some (kl_aI G 7 lch) := (fr42 _ (by decide)).trans q33
                  have q34 : w40 34 = some (kl_aI G 7 ((fun t => nI (lco t)))) := (fr42 _ (by decide)).trans q34
                  have q35 : w40 35 = some (kl_aI G 7 lpa) := (fr42 _ (by decide)).trans q35
                  have q36 : w40 36 = some (kl_aI G 7 lwy) := (fr42 _ (by decide)).trans q36
                  have q37 : w40 37 = some (kl_aI G 5 stb) := (fr42 _ (by decide)).trans q37
                  have q38 : w40 38 = some (kl_aI G 5 ((fun t => nI (sco t)))) := (fr42 _ (by decide)).trans q38
                  have q39 : w40 39 = some (kl_aI G 5 ctb) := (fr42 _ (by decide)).trans q39
                  have q40 : w40 40 = some (kl_aI G 5 ((fun t => nI (cln t)))) := (fr42 _ (by decide)).trans q40
                  have q41 : w40 41 = some (kl_aI G 50 ((fun t => nI (cw t)))) := (fr42 _ (by decide)).trans q41
                  have f38 : w40 43 = some (kl_aI G 12 p9) := (fr42 _ (by decide)).trans f38
                  have frm : ∀ j : Nat, j ≠ 26 → j ≠ 28 → j ≠ 29 → j ≠ 30 → j ≠ 31 → j ≠ 32 → j ≠ 43 → w40 j = w j := fun j k0 k1 k2 k3 k4 k5 k6 => (fr42 j k0).trans (frm j k0 k1 k2 k3 k4 k5 k6)
                  refine lv_aload_n hx hb dX5_delete_201 rfl (lv_at hl 0 rfl) ?_
                  refine kl_get (C := RX5) (T := TX5) (N := 31) (ci := 5) hx hb hts hinX5 hown hK hP f41 rfl 0 (by decide) (hts (.fieldLink RX5 71 "KinLedgerModel" "code" "I") (by decide +kernel)) (fun _ h9 => h9) rfl dX5_delete_202 ?_
                  refine kl_z_le (tgt := 212) hx hb (by omega) dX5_delete_205 (by decide) (fun c205 => ?_) (fun c205 => absurd c205 (by omega))
                  refine lv_aload_n hx hb dX5_delete_212 rfl (lv_at hl 0 rfl) ?_
                  refine kl_get (C := RX5) (T := TX5) (N := 31) (ci := 5) hx hb hts hinX5 hown hK hP f41 rfl 7 (by decide) (hts (.fieldLink RX5 130 "KinLedgerModel" "oldRows" "I") (by decide +kernel)) (fun _ h9 => h9) rfl dX5_delete_213 ?_
                  refine lv_iload hx hb dX5_delete_216 (lv_at hl 2 rfl) ?_
                  refine lv_isub hx hb dX5_delete_218 ?_
                  refine kl_top (z := nI (n - md_st gz n)) (by first | exact pk_sub (by omega) | (rw [pk_sub (by omega)]; congr 1; omega)) ?_
                  exact kl_iret hx hb hr hlocks hP (Or.inr (Or.inl (⟨hok, q, g1, gz, sO, sD, d1, kp, y, O3, D3, by omega, hcq, hsO, hsD, hmk, hfrom, hchk, hwr, hkp, hwy, hcpn, rfl, hsw, ⟨_, _, f41⟩, f36, f37, ⟨_, _, _, _, f15, f16, f22, f38⟩, frm⟩))) dX5_delete_219
                · have q27 : w32 27 = some (kl_aI G 4 ((fun t => nI (cn t)))) := (fr39 _ (by decide) (by decide) (by decide) (by decide)).trans q27
                  have f15 : w32 30 = some (kl_aI G 24 sO) := (fr39 _ (by decide) (by decide) (by decide) (by decide)).trans f15
                  have f16 : w32 31 = some (kl_aI G 96 sD) := (fr39 _ (by decide) (by decide) (by decide) (by decide)).trans f16
                  have f22 : w32 32 = some (kl_aZ G 24 gz) := (fr39 _ (by decide) (by decide) (by decide) (by decide)).trans f22
                  have q33 : w32 33 = some (kl_aI G 7 lch) := (fr39 _ (by decide) (by decide) (by decide) (by decide)).trans q33
                  have q34 : w32 34 = some (kl_aI G 7 ((fun t => nI (lco t)))) := (fr39 _ (by decide) (by decide) (by decide) (by decide)).trans q34
                  have q35 : w32 35 = some (kl_aI G 7 lpa) := (fr39 _ (by decide) (by decide) (by decide) (by decide)).trans q35
                  have q36 : w32 36 = some (kl_aI G 7 lwy) := (fr39 _ (by decide) (by decide) (by decide) (by decide)).trans q36
                  have q37 : w32 37 = some (kl_aI G 5 stb) := (fr39 _ (by decide) (by decide) (by decide) (by decide)).trans q37
                  have q38 : w32 38 = some (kl_aI G 5 ((fun t => nI (sco t)))) := (fr39 _ (by decide) (by decide) (by decide) (by decide)).trans q38
                  have q39 : w32 39 = some (kl_aI G 5 ctb) := (fr39 _ (by decide) (by decide) (by decide) (by decide)).trans q39
                  have q40 : w32 40 = some (kl_aI G 5 ((fun t => nI (cln t)))) := (fr39 _ (by decide) (by decide) (by decide) (by decide)).trans q40
                  have q41 : w32 41 = some (kl_aI G 50 ((fun t => nI (cw t)))) := (fr39 _ (by decide) (by decide) (by decide) (by decide)).trans q41
                  have f35 : w32 26 = some (.inr (5, [.int (nI 0), .int y2, .int (nI nT), .ref (B + 27), .int (nI n), .ref (B + 28), .ref (B + 29), .int (nI n), .ref (B + 30), .ref (B + 31), .ref (B + 32), .int (nI nL), .ref (B + 33), .ref (B + 34), .ref (B + 35), .ref (B + 36), .int (nI nS), .ref (B + 37), .ref (B + 38), .int (nI nC), .ref (B + 39), .ref (B + 40), .ref (B + 41), .int (nI nW), .ref (B + 42), .int h9, .ref (B + 43), .int (nI nM), .ref (B + 44), .ref (B + 45), .ref (B + 46)])) := f35
                  have f36 : w32 28 = some (kl_aI G 24 O2) := f36
                  have f37 : w32 29 = some (kl_aI G 96 D2) := f37
                  have f38 : w32 43 = some (kl_aI G 12 p9) := f38
                  have frm : ∀ j : Nat, j ≠ 26 → j ≠ 28 → j ≠ 29 → j ≠ 30 → j ≠ 31 → j ≠ 32 → j ≠ 43 → w32 j = w j := fun j k0 k1 k2 k3 k4 k5 k6 => (fr39 j k0 k1 k2 k6).trans (frm j k0 k1 k2 k3 k4 k5 k6)
                  refine kl_put (C := RX5) (T := TX5) (N := 31) (ci := 5) (v := .int (nI 2)) (ty := .int) hx hb hts hinX5 tyX5 tyX5_ok nmX5 hown hK hP f35 rfl 0 (by decide) (hts (.fieldLink RX5 71 "KinLedgerModel" "code" "I") (by decide +kernel)) (fun _ h9 => h9) rfl (by decide +kernel) rfl rfl (Nat.le_of_ble_eq_true rfl) dX5_delete_198 (fun w43 H locs f44 fr45 hzw43 hP => ?_)
                  have f44 : w43 26 = some (.inr (5, [.int (nI 2), .int y2, .int (nI nT), .ref (B + 27), .int (nI n), .ref (B + 28), .ref (B + 29), .int (nI n), .ref (B + 30), .ref (B + 31), .ref (B + 32), .int (nI nL), .ref (B + 33), .ref (B + 34), .ref (B + 35), .ref (B + 36), .int (nI nS), .ref (B + 37), .ref (B + 38), .int (nI nC), .ref (B + 39), .ref (B + 40), .ref (B + 41), .int (nI nW), .ref (B + 42), .int h9, .ref (B + 43), .int (nI nM), .ref (B + 44), .ref (B + 45), .ref (B + 46)])) := f44
                  have q27 : w43 27 = some (kl_aI G 4 ((fun t => nI (cn t)))) := (fr45 _ (by decide)).trans q27
                  have f36 : w43 28 = some (kl_aI G 24 O2) := (fr45 _ (by decide)).trans f36
                  have f37 : w43 29 = some (kl_aI G 96 D2) := (fr45 _ (by decide)).trans f37
                  have f15 : w43 30 = some (kl_aI G 24 sO) := (fr45 _ (by decide)).trans f15
                  have f16 : w43 31 = some (kl_aI G 96 sD) := (fr45 _ (by decide)).trans f16
                  have f22 : w43 32 = some (kl_aZ G 24 gz) := (fr45 _ (by decide)).trans f22
                  have q33 : w43 33 = some (kl_aI G 7 lch) := (fr45 _ (by decide)).trans q33
                  have q34 : w43 34 = some (kl_aI G 7 ((fun t => nI (lco t)))) := (fr45 _ (by decide)).trans q34
                  have q35 : w43 35 = some (kl_aI G 7 lpa) := (fr45 _ (by decide)).trans q35
                  have q36 : w43 36 = some (kl_aI G 7 lwy) := (fr45 _ (by decide)).trans q36
                  have q37 : w43 37 = some (kl_aI G 5 stb) := (fr45 _ (by decide)).trans q37
                  have q38 : w43 38 = some (kl_aI G 5 ((fun t => nI (sco t)))) := (fr45 _ (by decide)).trans q38
                  have q39 : w43 39 = some (kl_aI G 5 ctb) := (fr45 _ (by decide)).trans q39
                  have q40 : w43 40 = some (kl_aI G 5 ((fun t => nI (cln t)))) := (fr45 _ (by decide)).trans q40
                  have q41 : w43 41 = some (kl_aI G 50 ((fun t => nI (cw t)))) := (fr45 _ (by decide)).trans q41
                  have f38 : w43 43 = some (kl_aI G 12 p9) := (fr45 _ (by decide)).trans f38
                  have frm : ∀ j : Nat, j ≠ 26 → j ≠ 28 → j ≠ 29 → j ≠ 30 → j ≠ 31 → j ≠ 32 → j ≠ 43 → w43 j = w j := fun j k0 k1 k2 k3 k4 k5 k6 => (fr45 j k0).trans (frm j k0 k1 k2 k3 k4 k5 k6)
                  refine lv_aload_n hx hb dX5_delete_201 rfl (lv_at hl 0 rfl) ?_
                  refine kl_get (C := RX5) (T := TX5) (N := 31) (ci := 5) hx hb hts hinX5 hown hK hP f44 rfl 0 (by decide) (hts (.fieldLink RX5 71 "KinLedgerModel" "code" "I") (by decide +kernel)) (fun _ h9 => h9) rfl dX5_delete_202 ?_
                  refine kl_z_le (tgt := 212) hx hb (by omega) dX5_delete_205 (by decide) (fun c205 => absurd c205 (by omega)) (fun c205 => ?_)
                  refine lv_iconst (v := nI 0) hx hb dX5_delete_208 (by decide) ?_
                  refine lv_goto (tgt := 219) hx hb dX5_delete_209 (by decide) ?_
                  exact kl_iret hx hb hr hlocks hP (Or.inr (Or.inr (⟨hok, q, g1, gz, sO, sD, d1, kp, y, O3, D3, by omega, hcq, hsO, hsD, hmk, hfrom, hchk, hwr, hkp, hwy, hcpn, y2, hy0, hsw, ⟨_, _, f44⟩, ⟨⟨_, _, f36, f37, fun q hq => (hO2 q hq).trans (hsO q hq), fun q hq => (hD2 q hq).trans (hsD q hq)⟩, ⟨_, _, _, _, f15, f16, f22, f38⟩⟩, frm⟩))) dX5_delete_219
              · have hale : a9 ≤ r9 := by rw [ha]; exact md_st_le
                refine lv_aload_n hx hb dX5_delete_112 rfl (lv_at hl 0 rfl) ?_
                refine kl_get (C := RX5) (T := TX5) (N := 31) (ci := 5) hx hb hts hinX5 hown hK hP f14 rfl 10 (by decide) (hts (.fieldLink RX5 25 "KinLedgerModel" "gone" "[Z") (by decide +kernel)) (fun _ h9 => h9) rfl dX5_delete_113 ?_
                refine lv_iload hx hb dX5_delete_116 (lv_at hl 3 rfl) ?_
                refine kl_zald hx hb hK hP f22 (by omega) (by omega) dX5_delete_118 ?_
                refine lv_if_ne (tgt := 178) hx hb dX5_delete_119 (by decide) (fun c119 => ?_) (fun c119 => ?_)
                · refine lv_iinc (v := nI (r9 + 1)) (lv' := [(6, .int (nI (r9 + 1))), (0, .ref (B + 26)), (4, .int (nI y)), (5, .int (nI a9))]) hx hb dX5_delete_178 hl (k := 3) rfl (nI_1 _) (by decide) rfl (fun ls hl => ?_)
                  refine lv_goto (tgt := 103) hx hb dX5_delete_181 (by decide) ?_
                  exact ih103 (r9 + 1) a9 O3 D3 (by omega) (by first | omega | grind) (by rw [md_st_n c119, ← ha]) (hcp.no c119) _ _ _ f14 q27 q28 f27 f15 f16 f22 q33 q34 q35 q36 q37 q38 q39 q40 q41 q43 frm hP ls (lv_sub hl [1, 2, 3, 0] rfl)
                · refine lv_aload_n hx hb dX5_delete_122 rfl (lv_at hl 0 rfl) ?_
                  refine kl_get (C := RX5) (T := TX5) (N := 31) (ci := 5) hx hb hts hinX5 hown hK hP f14 rfl 5 (by decide) (hts (.fieldLink RX5 13 "KinLedgerModel" "of" "[I") (by decide +kernel)) (fun _ h9 => h9) rfl dX5_delete_123 ?_
                  refine lv_iload hx hb dX5_delete_126 (lv_at hl 2 rfl) ?_
                  refine lv_aload_n hx hb dX5_delete_128 rfl (lv_at hl 0 rfl) ?_
                  refine kl_get (C := RX5) (T := TX5) (N := 31) (ci := 5) hx hb hts hinX5 hown hK hP f14 rfl 5 (by decide) (hts (.fieldLink RX5 13 "KinLedgerModel" "of" "[I") (by decide +kernel)) (fun _ h9 => h9) rfl dX5_delete_129 ?_
                  refine lv_iload hx hb dX5_delete_132 (lv_at hl 3 rfl) ?_
                  refine kl_iald hx hb hK hP q28 (by omega) (by omega) dX5_delete_134 ?_
                  refine kl_iast hx hb hK hP q28 (by omega) (by omega) dX5_delete_135 (fun w46 H locs f47 fr48 hzw46 hP => ?_)
                  have f14 : w46 26 = some (.inr (5, [.int (nI 0), .int rs, .int (nI nT), .ref (B + 27), .int (nI n), .ref (B + 28), .ref (B + 29), .int (nI n), .ref (B + 30), .ref (B + 31), .ref (B + 32), .int (nI nL), .ref (B + 33), .ref (B + 34), .ref (B + 35), .ref (B + 36), .int (nI nS), .ref (B + 37), .ref (B + 38), .int (nI nC), .ref (B + 39), .ref (B + 40), .ref (B + 41), .int (nI nW), .ref (B + 42), .int hi, .ref (B + 43), .int (nI nM), .ref (B + 44), .ref (B + 45), .ref (B + 46)])) := (fr48 _ (by decide)).trans f14
                  have q27 : w46 27 = some (kl_aI G 4 ((fun t => nI (cn t)))) := (fr48 _ (by decide)).trans q27
                  have f27 : w46 29 = some (kl_aI G 96 D3) := (fr48 _ (by decide)).trans f27
                  have f15 : w46 30 = some (kl_aI G 24 sO) := (fr48 _ (by decide)).trans f15
                  have f16 : w46 31 = some (kl_aI G 96 sD) := (fr48 _ (by decide)).trans f16
                  have f22 : w46 32 = some (kl_aZ G 24 gz) := (fr48 _ (by decide)).trans f22
                  have q33 : w46 33 = some (kl_aI G 7 lch) := (fr48 _ (by decide)).trans q33
                  have q34 : w46 34 = some (kl_aI G 7 ((fun t => nI (lco t)))) := (fr48 _ (by decide)).trans q34
                  have q35 : w46 35 = some (kl_aI G 7 lpa) := (fr48 _ (by decide)).trans q35
                  have q36 : w46 36 = some (kl_aI G 7 lwy) := (fr48 _ (by decide)).trans q36
                  have q37 : w46 37 = some (kl_aI G 5 stb) := (fr48 _ (by decide)).trans q37
                  have q38 : w46 38 = some (kl_aI G 5 ((fun t => nI (sco t)))) := (fr48 _ (by decide)).trans q38
                  have q39 : w46 39 = some (kl_aI G 5 ctb) := (fr48 _ (by decide)).trans q39
                  have q40 : w46 40 = some (kl_aI G 5 ((fun t => nI (cln t)))) := (fr48 _ (by decide)).trans q40
                  have q41 : w46 41 = some (kl_aI G 50 ((fun t => nI (cw t)))) := (fr48 _ (by decide)).trans q41
                  have q43 : w46 43 = some (kl_aI G 12 pl) := (fr48 _ (by decide)).trans q43
                  have frm : ∀ j : Nat, j ≠ 26 → j ≠ 28 → j ≠ 29 → j ≠ 30 → j ≠ 31 → j ≠ 32 → j ≠ 43 → w46 j = w j := fun j k0 k1 k2 k3 k4 k5 k6 => (fr48 j k1).trans (frm j k0 k1 k2 k3 k4 k5 k6)
                  refine lv_iconst (v := nI 0) hx hb dX5_delete_136 (by decide) ?_
                  refine lv_istore (lv' := [(7, .int (nI 0)), (0, .ref (B + 26)), (4, .int (nI y)), (5, .int (nI a9)), (6, .int (nI r9))]) hx hb dX5_delete_137 hl (by decide) rfl (fun ls hl => ?_)
                  have lp139 : ∀ (n139 : Nat) (c9 : Nat) (D4 : Nat → Int32), 4 - c9 < n139 → (c9 ≤ 4) → (md_cq d1 D3 a9 r9 c9 D4) → ∀ (w1 : kl_M) (H : Heap) (locs : List Loc), w1 26 = some (.inr (5, [.int (nI 0), .int rs, .int (nI nT), .ref (B + 27), .int (nI n), .ref (B + 28), .ref (B + 29), .int (nI n), .ref (B + 30), .ref (B + 31), .ref (B + 32), .int (nI nL), .ref (B + 33), .ref (B + 34), .ref (B + 35), .ref (B + 36), .int (nI nS), .ref (B + 37), .ref (B + 38), .int (nI nC), .ref (B + 39), .ref (B + 40), .ref (B + 41), .int (nI nW), .ref (B + 42), .int hi, .ref (B + 43), .int (nI nM), .ref (B + 44), .ref (B + 45), .ref (B + 46)])) → w1 27 = some (kl_aI G 4 ((fun t => nI (cn t)))) → w1 28 = some (kl_aI G 24 (upd O3 a9 (O3 r9))) → w1 29 = some (kl_aI G 96 D4) → w1 30 = some (kl_aI G 24 sO) → w1 31 = some (kl_aI G 96 sD) → w1 32 = some (kl_aZ G 24 gz) → w1 33 = some (kl_aI G 7 lch) → w1 34 = some (kl_aI G 7 ((fun t => nI (lco t)))) → w1 35 = some (kl_aI G 7 lpa) → w1 36 = some (kl_aI G 7 lwy) → w1 37 = some (kl_aI G 5 stb) → w1 38 = some (kl_aI G 5 ((fun t => nI (sco t)))) → w1 39 = some (kl_aI G 5 ctb) → w1 40 = some (kl_aI G 5 ((fun t => nI (cln t)))) → w1 41 = some (kl_aI G 50 ((fun t => nI (cw t)))) → w1 43 = some (kl_aI G 12 pl) → (∀ j : Nat, j ≠ 26 → j ≠ 28 → j ≠ 29 → j ≠ 30 → j ≠ 31 → j ≠ 32 → j ≠ 43 → w1 j = w j) → kl_S G B w1 s.heap H locs → ∀ ls : Array Slot, lv_has ls 8 [(0, .ref (B + 26)), (4, .int (nI y)), (5, .int (nI a9)), (6, .int (nI r9)), (7, .int (nI c9))] → W pg l e rm_X5_delete s m ([.ref (B + 26), .int t, .int c, .int x] : List Value).toArray below meth cd H locs (0 + 0 + 0 + 0 + 0) (0 + 0 + 0 + 0 + 0) (MQ below (kl_Qi G B (fun r w1 => (¬ mt_col t c nT cn ∧ w1 26 = some (.inr (5, [.int (nI 1), .int rs, .int (nI nT), .ref (B + 27), .int (nI n), .ref (B + 28), .ref (B + 29), .int (nI on), .ref (B + 30), .ref (B + 31), .ref (B + 32), .int (nI nL), .ref (B + 33), .ref (B + 34), .ref (B + 35), .ref (B + 36), .int (nI nS), .ref (B + 37), .ref (B + 38), .int (nI nC), .ref (B + 39), .ref (B + 40), .ref (B + 41), .int (nI nW), .ref (B + 42), .int hi, .ref (B + 43), .int (nI nM), .ref (B + 44), .ref (B + 45), .ref (B + 46)])) ∧ md_sm G w1 n O D ∧ ∀ j : Nat, j ≠ 26 → j ≠ 28 → j ≠ 29 → j ≠ 30 → j ≠ 31 → j ≠ 32 → j ≠ 43 → w1 j = w j) ∨ (mt_col t c nT cn ∧ ∃ (q : Nat) (g1 g2 sO sD D1 : Nat → Int32) (kp : Int32) (y : Nat) (O3 D3 : Nat → Int32), q < 4 ∧ c = nI q ∧ (∀ p, p < n → sO p = O p) ∧ (∀ k, k < 4 * n → sD k = D k) ∧ (∀ p, p < n → mt_mark O D t q x p (g1 p)) ∧ mt_from (md_T n sO) sD nL lch lco lpa lwy g1 g2 ∧ (∀ l p, p < 24 → l < nL → mt_chk (md_T n sO) sD g2 lch lco lpa lwy l p) ∧ mt_wr n (fun l _ => l < nL) (fun l p => lwy l = nI 2 ∧ g2 p = 0 ∧ mt_lost (md_T n sO) sD g2 (lch l) (lco l) (lpa l) p) lco (fun _ => nI 0) D D1 ∧ mt_kp n (fun l _ => l < nL) (fun l p => lwy l = 0 ∧ g2 p = 0 ∧ mt_lost (md_T n sO) sD g2 (lch l) (lco l) (lpa l) p) kp ∧ md_wy kp y ∧ md_cp g2 O D1 n O3 D3 ∧ r = nI (n - md_st g2 n) ∧ md_sw y (mt_why (md_T (md_st g2 n) O3) D3 nT nS stb sco nL lch lco lpa nC ctb (fun j i => cw (10 * j + i)) cln) (nI 0) ∧ (∃ h2 on2, w1 26 = some (.inr (5, [.int (nI 0), .int rs, .int (nI nT), .ref (B + 27), .int (nI (md_st g2 n)), .ref (B + 28), .ref (B + 29), .int (nI on2), .ref (B + 30), .ref (B + 31), .ref (B + 32), .int (nI nL), .ref (B + 33), .ref (B + 34), .ref (B + 35), .ref (B + 36), .int (nI nS), .ref (B + 37), .ref (B + 38), .int (nI nC), .ref (B + 39), .ref (B + 40), .ref (B + 41), .int (nI nW), .ref (B + 42), .int h2, .ref (B + 43), .int (nI nM), .ref (B + 44), .ref (B + 45), .ref (B + 46)]))) ∧ w1 28 = some (kl_aI G 24 O3) ∧ w1 29 = some (kl_aI G 96 D3) ∧ md_jk G w1 ∧ ∀ j : Nat, j ≠ 26 → j ≠ 28 → j ≠ 29 → j ≠ 30 → j ≠ 31 → j ≠ 32 → j ≠ 43 → w1 j = w j) ∨ (mt_col t c nT cn ∧ ∃ (q : Nat) (g1 g2 sO sD D1 : Nat → Int32) (kp : Int32) (y : Nat) (O3 D3 : Nat → Int32), q < 4 ∧ c = nI q ∧ (∀ p, p < n → sO p = O p) ∧ (∀ k, k < 4 * n → sD k = D k) ∧ (∀ p, p < n → mt_mark O D t q x p (g1 p)) ∧ mt_from (md_T n sO) sD nL lch lco lpa lwy g1 g2 ∧ (∀ l p, p < 24 → l < nL → mt_chk (md_T n sO) sD g2 lch lco lpa lwy l p) ∧ mt_wr n (fun l _ => l < nL) (fun l p => lwy l = nI 2 ∧ g2 p = 0 ∧ mt_lost (md_T n sO) sD g2 (lch l) (lco l) (lpa l) p) lco (fun _ => nI 0) D D1 ∧ mt_kp n (fun l _ => l < nL) (fun l p => lwy l = 0 ∧ g2 p = 0 ∧ mt_lost (md_T n sO) sD g2 (lch l) (lco l) (lpa l) p) kp ∧ md_wy kp y ∧ md_cp g2 O D1 n O3 D3 ∧ ∃ y2, y2 ≠ 0 ∧ md_sw y (mt_why (md_T (md_st g2 n) O3) D3 nT nS stb sco nL lch lco lpa nC ctb (fun j i => cw (10 * j + i)) cln) y2 ∧ (∃ h2 on2, w1 26 = some (.inr (5, [.int (nI 2), .int y2, .int (nI nT), .ref (B + 27), .int (nI n), .ref (B + 28), .ref (B + 29), .int (nI on2), .ref (B + 30), .ref (B + 31), .ref (B + 32), .int (nI nL), .ref (B + 33), .ref (B + 34), .ref (B + 35), .ref (B + 36), .int (nI nS), .ref (B + 37), .ref (B + 38), .int (nI nC), .ref (B + 39), .ref (B + 40), .ref (B + 41), .int (nI nW), .ref (B + 42), .int h2, .ref (B + 43), .int (nI nM), .ref (B + 44), .ref (B + 45), .ref (B + 46)]))) ∧ md_sm G w1 n O D ∧ ∀ j : Nat, j ≠ 26 → j ≠ 28 → j ≠ 29 → j ≠ 30 → j ≠ 31 → j ≠ 32 → j ≠ 43 → w1 j = w j))) ([.ref (B + 26), .int t, .int c, .int x] : List Value).toArray s 0 0 (kl_fr B)) (F0 m 139 ls []) := by
                    intro n139
                    induction n139 with
                    | zero => intro c9 D4 hm; exact absurd hm (Nat.not_lt_zero _)
                    | succ n139 ih139 =>
                      intro c9 D4 hm hc9 hcq4 w1 H locs f14 q27 f47 f27 f15 f16 f22 q33 q34 q35 q36 q37 q38 q39 q40 q41 q43 frm hP ls hl
                      refine lv_iload hx hb dX5_delete_139 (lv_at hl 4 rfl) ?_
                      refine lv_iconst (v := nI 4) hx hb dX5_delete_141 (by decide) ?_
                      refine kl_ge (tgt := 175) hx hb (by omega) (by omega) dX5_delete_142 (by decide) (fun c142 => ?_) (fun c142 => ?_)
                      · refine lv_iinc (v := nI (a9 + 1)) (lv' := [(5, .int (nI (a9 + 1))), (0, .ref (B + 26)), (4, .int (nI y)), (6, .int (nI r9)), (7, .int (nI c9))]) hx hb dX5_delete_175 hl (k := 2) rfl (nI_1 _) (by decide) rfl (fun ls hl => ?_)
                        refine lv_iinc (v := nI (r9 + 1)) (lv' := [(6, .int (nI (r9 + 1))), (5, .int (nI (a9 + 1))), (0, .ref (B + 26)), (4, .int (nI y)), (7, .int (nI c9))]) hx hb dX5_delete_178 hl (k := 3) rfl (nI_1 _) (by decide) rfl (fun ls hl => ?_)
                        refine lv_goto (tgt := 103) hx hb dX5_delete_181 (by decide) ?_
                        exact ih103 (r9 + 1) (a9 + 1) (upd O3 a9 (O3 r9)) D4 (by omega) (by first | omega | grind) (by rw [md_st_y c119, ← ha]) (by have e9 : c9 = 4 := (by omega); subst e9; subst ha; exact hcp.yes c119 hcq4) _ _ _ f14 q27 f47 f27 f15 f16 f22 q33 q34 q35 q36 q37 q38 q39 q40 q41 q43 frm hP ls (lv_sub hl [2, 3, 1, 0] rfl)
                      · refine lv_aload_n hx hb dX5_delete_145 rfl (lv_at hl 0 rfl) ?_
                        refine kl_get (C := RX5) (T := TX5) (N := 31) (ci := 5) hx hb hts hinX5 hown hK hP f14 rfl 6 (by decide) (hts (.fieldLink RX5 16 "KinLedgerModel" "cells" "[I") (by decide +kernel)) (fun _ h9 => h9) rfl dX5_delete_146 ?_
                        refine lv_iconst (v := nI 4) hx hb dX5_delete_149 (by decide) ?_
                        refine lv_iload hx hb dX5_delete_150 (lv_at hl 2 rfl) ?_
                        refine lv_imul hx hb dX5_delete_152 ?_
                        refine kl_top (z := nI (4 * a9)) (pk_mul _ _) ?_
                        refine lv_iload hx hb dX5_delete_153 (lv_at hl 4 rfl) ?_
                        refine lv_iadd hx hb dX5_delete_155 ?_
                        refine kl_top (z := nI (4 * a9 + c9)) (by first | exact nI_add _ _ | (rw [nI_add]; first | rfl | (congr 1; omega))) ?_
                        refine lv_aload_n hx hb dX5_delete_156 rfl (lv_at hl 0 rfl) ?_
                        refine kl_get (C := RX5) (T := TX5) (N := 31) (ci := 5) hx hb hts hinX5 hown hK hP f14 rfl 6 (by decide) (hts (.fieldLink RX5 16 "KinLedgerModel" "cells" "[I") (by decide +kernel)) (fun _ h9 => h9) rfl dX5_delete_157 ?_
                        refine lv_iconst (v := nI 4) hx hb dX5_delete_160 (by decide) ?_
                        refine lv_iload hx hb dX5_delete_161 (lv_at hl 3 rfl) ?_
                        refine lv_imul hx hb dX5_delete_163 ?_
                        refine kl_top (z := nI (4 * r9)) (pk_mul _ _) ?_
                        refine lv_iload hx hb dX5_delete_164 (lv_at hl 4 rfl) ?_
                        refine lv_iadd hx hb dX5_delete_166 ?_
                        refine kl_top (z := nI (4 * r9 + c9)) (by first | exact nI_add _ _ | (rw [nI_add]; first | rfl | (congr 1; omega))) ?_
                        refine kl_iald hx hb hK hP f27 (by omega) (by omega) dX5_delete_167 ?_
                        refine kl_iast hx hb hK hP f27 (by omega) (by omega) dX5_delete_168 (fun w49 H locs f50 fr51 hzw49 hP => ?_)
                        have f14 : w49 26 = some (.inr (5, [.int (nI 0), .int rs, .int (nI nT), .ref (B + 27), .int (nI n), .ref (B + 28), .ref (B + 29), .int (nI n), .ref (B + 30), .ref (B + 31), .ref (B + 32), .int (nI nL), .ref (B + 33), .ref (B + 34), .ref (B + 35), .ref (B + 36), .int (nI nS), .ref (B + 37), .ref (B + 38), .int (nI nC), .ref (B + 39), .ref (B + 40), .ref (B + 41), .int (nI nW), .ref (B + 42), .int hi, .ref (B + 43), .int (nI nM), .ref (B + 44), .ref (B + 45), .ref (B + 46)])) := (fr51 _ (by decide)).trans f14
                        have q27 : w49 27 = some (kl_aI G 4 ((fun t => nI (cn t)))) := (fr51 _ (by decide)).trans q27
                        have f47 : w49 28 = some (kl_aI G 24 (upd O3 a9 (O3 r9))) := (fr51 _ (by decide)).trans f47
                        have f15 : w49 30 = some (kl_aI G 24 sO) := (fr51 _ (by decide)).trans f15
                        have f16 : w49 31 = some (kl_aI G 96 sD) := (fr51 _ (by decide)).trans f16
                        have f22 : w49 32 = some (kl_aZ G 24 gz) := (fr51 _ (by decide)).trans f22
                        have q33 : w49 33 = some (kl_aI G 7 lch) := (fr51 _ (by decide)).trans q33
                        have q34 : w49 34 = some (kl_aI G 7 ((fun t => nI (lco t)))) := (fr51 _ (by decide)).trans q34
                        have q35 : w49 35 = some (kl_aI G 7 lpa) := (fr51 _ (by decide)).trans q35
                        have q36 : w49 36 = some (kl_aI G 7 lwy) := (fr51 _ (by decide)).trans q36
                        have q37 : w49 37 = some (kl_aI G 5 stb) := (fr51 _ (by decide)).trans q37
                        have q38 : w49 38 = some (kl_aI G 5 ((fun t => nI (sco t)))) := (fr51 _ (by decide)).trans q38
                        have q39 : w49 39 = some (kl_aI G 5 ctb) := (fr51 _ (by decide)).trans q39
                        have q40 : w49 40 = some (kl_aI G 5 ((fun t => nI (cln t)))) := (fr51 _ (by decide)).trans q40
                        have q41 : w49 41 = some (kl_aI G 50 ((fun t => nI (cw t)))) := (fr51 _ (by decide)).trans q41
                        have q43 : w49 43 = some (kl_aI G 12 pl) := (fr51 _ (by decide)).trans q43
                        have frm : ∀ j : Nat, j ≠ 26 → j ≠ 28 → j ≠ 29 → j ≠ 30 → j ≠ 31 → j ≠ 32 → j ≠ 43 → w49 j = w j := fun j k0 k1 k2 k3 k4 k5 k6 => (fr51 j k2).trans (frm j k0 k1 k2 k3 k4 k5 k6)
                        refine lv_iinc (v := nI (c9 + 1)) (lv' := [(7, .int (nI (c9 + 1))), (0, .ref (B + 26)), (4, .int (nI y)), (5, .int (nI a9)), (6, .int (nI r9))]) hx hb dX5_delete_169 hl (k := 4) rfl (nI_1 _) (by decide) rfl (fun ls hl => ?_)
                        refine lv_goto (tgt := 139) hx hb dX5_delete_172 (by decide) ?_
                        exact ih139 (c9 + 1) (upd D4 (4 * a9 + c9) (D4 (4 * r9 + c9))) (by omega) (by first | omega | grind) (hcq4.yes (by omega) (by omega) hcp.2.2) _ _ _ f14 q27 f47 f50 f15 f16 f22 q33 q34 q35 q36 q37 q38 q39 q40 q41 q43 frm hP ls (lv_sub hl [1, 2, 3, 4, 0] rfl)
                  exact lp139 (4 + 1) 0 D3 (Nat.lt_succ_of_le (by omega)) (by first | omega | grind) md_cq.rf _ _ _ f14 q27 f47 f27 f15 f16 f22 q33 q34 q35 q36 q37 q38 q39 q40 q41 q43 frm hP ls (lv_sub hl [1, 2, 3, 4, 0] rfl)
          exact lp103 (n + 1) 0 0 O d1 (Nat.lt_succ_of_le (by omega)) (by first | omega | grind) rfl md_cp.rf _ _ _ f14 q27 q28 f27 f15 f16 f22 q33 q34 q35 q36 q37 q38 q39 q40 q41 q43 frm hP ls (lv_sub hl [3, 2, 1, 0] rfl)
        · refine lv_aload_n hx hb dX5_delete_43 rfl (lv_at hl 0 rfl) ?_
          refine kl_get (C := RX5) (T := TX5) (N := 31) (ci := 5) hx hb hts hinX5 hown hK hP f14 rfl 10 (by decide) (hts (.fieldLink RX5 25 "KinLedgerModel" "gone" "[Z") (by decide +kernel)) (fun _ h9 => h9) rfl dX5_delete_44 ?_
          refine lv_iload hx hb dX5_delete_47 (lv_at hl 4 rfl) ?_
          refine lv_aload_n hx hb dX5_delete_49 rfl (lv_at hl 0 rfl) ?_
          refine kl_get (C := RX5) (T := TX5) (N := 31) (ci := 5) hx hb hts hinX5 hown hK hP f14 rfl 5 (by decide) (hts (.fieldLink RX5 13 "KinLedgerModel" "of" "[I") (by decide +kernel)) (fun _ h9 => h9) rfl dX5_delete_50 ?_
          refine lv_iload hx hb dX5_delete_53 (lv_at hl 4 rfl) ?_
          refine kl_iald hx hb hK hP q28 (by omega) (by omega) dX5_delete_55 ?_
          refine lv_iload_n hx hb dX5_delete_56 rfl (lv_at hl 1 rfl) ?_
          refine lv_icmp_ne (tgt := 79) hx hb dX5_delete_57 (by decide) (fun c57 => ?_) (fun c57 => ?_)
          · refine lv_iconst (v := nI 0) hx hb dX5_delete_79 (by decide) ?_
            refine kl_zast hx hb hK hP f17 (by omega) (by omega) (y := nI 0) (by decide) dX5_delete_80 (fun w52 H locs f53 fr54 hzw52 hP => ?_)
            have f14 : w52 26 = some (.inr (5, [.int (nI 0), .int rs, .int (nI nT), .ref (B + 27), .int (nI n), .ref (B + 28), .ref (B + 29), .int (nI n), .ref (B + 30), .ref (B + 31), .ref (B + 32), .int (nI nL), .ref (B + 33), .ref (B + 34), .ref (B + 35), .ref (B + 36), .int (nI nS), .ref (B + 37), .ref (B + 38), .int (nI nC), .ref (B + 39), .ref (B + 40), .ref (B + 41), .int (nI nW), .ref (B + 42), .int hi, .ref (B + 43), .int (nI nM), .ref (B + 44), .ref (B + 45), .ref (B + 46)])) := (fr54 _ (by decide)).trans f14
            have q27 : w52 27 = some (kl_aI G 4 ((fun t => nI (cn t)))) := (fr54 _ (by decide)).trans q27
            have q28 : w52 28 = some (kl_aI G 24 O) := (fr54 _ (by decide)).trans q28
            have q29 : w52 29 = some (kl_aI G 96 D) := (fr54 _ (by decide)).trans q29
            have f15 : w52 30 = some (kl_aI G 24 sO) := (fr54 _ (by decide)).trans f15
            have f16 : w52 31 = some (kl_aI G 96 sD) := (fr54 _ (by decide)).trans f16
            have q33 : w52 33 = some (kl_aI G 7 lch) := (fr54 _ (by decide)).trans q33
            have q34 : w52 34 = some (kl_aI G 7 ((fun t => nI (lco t)))) := (fr54 _ (by decide)).trans q34
            have q35 : w52 35 = some (kl_aI G 7 lpa) := (fr54 _ (by decide)).trans q35
            have q36 : w52 36 = some (kl_aI G 7 lwy) := (fr54 _ (by decide)).trans q36
            have q37 : w52 37 = some (kl_aI G 5 stb) := (fr54 _ (by decide)).trans q37
            have q38 : w52 38 = some (kl_aI G 5 ((fun t => nI (sco t)))) := (fr54 _ (by decide)).trans q38
            have q39 : w52 39 = some (kl_aI G 5 ctb) := (fr54 _ (by decide)).trans q39
            have q40 : w52 40 = some (kl_aI G 5 ((fun t => nI (cln t)))) := (fr54 _ (by decide)).trans q40
            have q41 : w52 41 = some (kl_aI G 50 ((fun t => nI (cw t)))) := (fr54 _ (by decide)).trans q41
            have q43 : w52 43 = some (kl_aI G 12 pl) := (fr54 _ (by decide)).trans q43
            have frm : ∀ j : Nat, j ≠ 26 → j ≠ 28 → j ≠ 29 → j ≠ 30 → j ≠ 31 → j ≠ 32 → j ≠ 43 → w52 j = w j := fun j k0 k1 k2 k3 k4 k5 k6 => (fr54 j k5).trans (frm j k0 k1 k2 k3 k4 k5 k6)
            refine lv_iinc (v := nI (p + 1)) (lv' := [(4, .int (nI (p + 1))), (0, .ref (B + 26)), (1, .int t), (2, .int (nI q)), (3, .int x)]) hx hb dX5_delete_81 hl (k := 4) rfl (nI_1 _) (by decide) rfl (fun ls hl => ?_)
            refine lv_goto (tgt := 34) hx hb dX5_delete_84 (by decide) ?_
            exact ih34 (p + 1) (upd g1 p (nI 0)) (by omega) (by first | omega | grind) (mt_upd_sp hg ⟨fun z => absurd z.1 c57, fun _ => rfl⟩) _ _ _ f14 q27 q28 q29 f15 f16 f53 q33 q34 q35 q36 q37 q38 q39 q40 q41 q43 frm hP ls (lv_sub hl [1, 2, 3, 4, 0] rfl)
          · refine lv_aload_n hx hb dX5_delete_60 rfl (lv_at hl 0 rfl) ?_
            refine kl_get (C := RX5) (T := TX5) (N := 31) (ci := 5) hx hb hts hinX5 hown hK hP f14 rfl 6 (by decide) (hts (.fieldLink RX5 16 "KinLedgerModel" "cells" "[I") (by decide +kernel)) (fun _ h9 => h9) rfl dX5_delete_61 ?_
            refine lv_iconst (v := nI 4) hx hb dX5_delete_64 (by decide) ?_
            refine lv_iload hx hb dX5_delete_65 (lv_at hl 4 rfl) ?_
            refine lv_imul hx hb dX5_delete_67 ?_
            refine kl_top (z := nI (4 * p)) (pk_mul _ _) ?_
            refine lv_iload_n hx hb dX5_delete_68 rfl (lv_at hl 2 rfl) ?_
            refine lv_iadd hx hb dX5_delete_69 ?_
            refine kl_top (z := nI (4 * p + q)) (by first | exact nI_add _ _ | (rw [nI_add]; first | rfl | (congr 1; omega))) ?_
            refine kl_iald hx hb hK hP q29 (by omega) (by omega) dX5_delete_70 ?_
            refine lv_iload_n hx hb dX5_delete_71 rfl (lv_at hl 3 rfl) ?_
            refine lv_icmp_ne (tgt := 79) hx hb dX5_delete_72 (by decide) (fun c72 => ?_) (fun c72 => ?_)
            · refine lv_iconst (v := nI 0) hx hb dX5_delete_79 (by decide) ?_
              refine kl_zast hx hb hK hP f17 (by omega) (by omega) (y := nI 0) (by decide) dX5_delete_80 (fun w55 H locs f56 fr57 hzw55 hP => ?_)
              have f14 : w55 26 = some (.inr (5, [.int (nI 0), .int rs, .int (nI nT), .ref (B + 27), .int (nI n), .ref (B + 28), .ref (B + 29), .int (nI n), .ref (B + 30), .ref (B + 31), .ref (B + 32), .int (nI nL), .ref (B + 33), .ref (B + 34), .ref (B + 35), .ref (B + 36), .int (nI nS), .ref (B + 37), .ref (B + 38), .int (nI nC), .ref (B + 39), .ref (B + 40), .ref (B + 41), .int (nI nW), .ref (B + 42), .int hi, .ref (B + 43), .int (nI nM), .ref (B + 44), .ref (B + 45), .ref (B + 46)])) := (fr57 _ (by decide)).trans f14
              have q27 : w55 27 = some (kl_aI G 4 ((fun t => nI (cn t)))) := (fr57 _ (by decide)).trans q27
              have q28 : w55 28 = some (kl_aI G 24 O) := (fr57 _ (by decide)).trans q28
              have q29 : w55 29 = some (kl_aI G 96 D) := (fr57 _ (by decide)).trans q29
              have f15 : w55 30 = some (kl_aI G 24 sO) := (fr57 _ (by decide)).trans f15
              have f16 : w55 31 = some (kl_aI G 96 sD) := (fr57 _ (by decide)).trans f16
              have q33 : w55 33 = some (kl_aI G 7 lch) := (fr57 _ (by decide)).trans q33
              have q34 : w55 34 = some (kl_aI G 7 ((fun t => nI (lco t)))) := (fr57 _ (by decide)).trans q34
              have q35 : w55 35 = some (kl_aI G 7 lpa) := (fr57 _ (by decide)).trans q35
              have q36 : w55 36 = some (kl_aI G 7 lwy) := (fr57 _ (by decide)).trans q36
              have q37 : w55 37 = some (kl_aI G 5 stb) := (fr57 _ (by decide)).trans q37
              have q38 : w55 38 = some (kl_aI G 5 ((fun t => nI (sco t)))) := (fr57 _ (by decide)).trans q38
              have q39 : w55 39 = some (kl_aI G 5 ctb) := (fr57 _ (by decide)).trans q39
              have q40 : w55 40 = some (kl_aI G 5 ((fun t => nI (cln t)))) := (fr57 _ (by decide)).trans q40
              have q41 : w55 41 = some (kl_aI G 50 ((fun t => nI (cw t)))) := (fr57 _ (by decide)).trans q41
              have q43 : w55 43 = some (kl_aI G 12 pl) := (fr57 _ (by decide)).trans q43
              have frm : ∀ j : Nat, j ≠ 26 → j ≠ 28 → j ≠ 29 → j ≠ 30 → j ≠ 31 → j ≠ 32 → j ≠ 43 → w55 j = w j := fun j k0 k1 k2 k3 k4 k5 k6 => (fr57 j k5).trans (frm j k0 k1 k2 k3 k4 k5 k6)
              refine lv_iinc (v := nI (p + 1)) (lv' := [(4, .int (nI (p + 1))), (0, .ref (B + 26)), (1, .int t), (2, .int (nI q)), (3, .int x)]) hx hb dX5_delete_81 hl (k := 4) rfl (nI_1 _) (by decide) rfl (fun ls hl => ?_)
              refine lv_goto (tgt := 34) hx hb dX5_delete_84 (by decide) ?_
              exact ih34 (p + 1) (upd g1 p (nI 0)) (by omega) (by first | omega | grind) (mt_upd_sp hg ⟨fun z => absurd z.2 c72, fun _ => rfl⟩) _ _ _ f14 q27 q28 q29 f15 f16 f56 q33 q34 q35 q36 q37 q38 q39 q40 q41 q43 frm hP ls (lv_sub hl [1, 2, 3, 4, 0] rfl)
            · refine lv_iconst (v := nI 1) hx hb dX5_delete_75 (by decide) ?_
              refine lv_goto (tgt := 80) hx hb dX5_delete_76 (by decide) ?_
              refine kl_zast hx hb hK hP f17 (by omega) (by omega) (y := nI 1) (by decide) dX5_delete_80 (fun w58 H locs f59 fr60 hzw58 hP => ?_)
              have f14 : w58 26 = some (.inr (5, [.int (nI 0), .int rs, .int (nI nT), .ref (B + 27), .int (nI n), .ref (B + 28), .ref (B + 29), .int (nI n), .ref (B + 30), .ref (B + 31), .ref (B + 32), .int (nI nL), .ref (B + 33), .ref (B + 34), .ref (B + 35), .ref (B + 36), .int (nI nS), .ref (B + 37), .ref (B + 38), .int (nI nC), .ref (B + 39), .ref (B + 40), .ref (B + 41), .int (nI nW), .ref (B + 42), .int hi, .ref (B + 43), .int (nI nM), .ref (B + 44), .ref (B + 45), .ref (B + 46)])) := (fr60 _ (by decide)).trans f14
              have q27 : w58 27 = some (kl_aI G 4 ((fun t => nI (cn t)))) := (fr60 _ (by decide)).trans q27
              have q28 : w58 28 = some (kl_aI G 24 O) := (fr60 _ (by decide)).trans q28
              have q29 : w58 29 = some (kl_aI G 96 D) := (fr60 _ (by decide)).trans q29
              have f15 : w58 30 = some (kl_aI G 24 sO) := (fr60 _ (by decide)).trans f15
              have f16 : w58 31 = some (kl_aI G 96 sD) := (fr60 _ (by decide)).trans f16
              have q33 : w58 33 = some (kl_aI G 7 lch) := (fr60 _ (by decide)).trans q33
              have q34 : w58 34 = some (kl_aI G 7 ((fun t => nI (lco t)))) := (fr60 _ (by decide)).trans q34
              have q35 : w58 35 = some (kl_aI G 7 lpa) := (fr60 _ (by decide)).trans q35
              have q36 : w58 36 = some (kl_aI G 7 lwy) := (fr60 _ (by decide)).trans q36
              have q37 : w58 37 = some (kl_aI G 5 stb) := (fr60 _ (by decide)).trans q37
              have q38 : w58 38 = some (kl_aI G 5 ((fun t => nI (sco t)))) := (fr60 _ (by decide)).trans q38
              have q39 : w58 39 = some (kl_aI G 5 ctb) := (fr60 _ (by decide)).trans q39
              have q40 : w58 40 = some (kl_aI G 5 ((fun t => nI (cln t)))) := (fr60 _ (by decide)).trans q40
              have q41 : w58 41 = some (kl_aI G 50 ((fun t => nI (cw t)))) := (fr60 _ (by decide)).trans q41
              have q43 : w58 43 = some (kl_aI G 12 pl) := (fr60 _ (by decide)).trans q43
              have frm : ∀ j : Nat, j ≠ 26 → j ≠ 28 → j ≠ 29 → j ≠ 30 → j ≠ 31 → j ≠ 32 → j ≠ 43 → w58 j = w j := fun j k0 k1 k2 k3 k4 k5 k6 => (fr60 j k5).trans (frm j k0 k1 k2 k3 k4 k5 k6)
              refine lv_iinc (v := nI (p + 1)) (lv' := [(4, .int (nI (p + 1))), (0, .ref (B + 26)), (1, .int t), (2, .int (nI q)), (3, .int x)]) hx hb dX5_delete_81 hl (k := 4) rfl (nI_1 _) (by decide) rfl (fun ls hl => ?_)
              refine lv_goto (tgt := 34) hx hb dX5_delete_84 (by decide) ?_
              exact ih34 (p + 1) (upd g1 p (nI 1)) (by omega) (by first | omega | grind) (mt_upd_sp hg ⟨fun _ => rfl, fun z => absurd ⟨c57, c72⟩ z⟩) _ _ _ f14 q27 q28 q29 f15 f16 f59 q33 q34 q35 q36 q37 q38 q39 q40 q41 q43 frm hP ls (lv_sub hl [1, 2, 3, 4, 0] rfl)
    exact lp34 (n + 1) 0 sG (Nat.lt_succ_of_le (by omega)) (by first | omega | grind) lt_0 _ _ _ f14 q27 q28 q29 f15 f16 f17 q33 q34 q35 q36 q37 q38 q39 q40 q41 q43 frm hP ls (lv_sub hl [1, 2, 3, 4, 0] rfl)

abbrev rm_X5_update : Room := { frames := 5, cells := 0, slots := 0, locals := 113 }
set_option maxHeartbeats 4000000 in
set_option maxRecDepth 100000 in
theorem c_X5_update (l : Launch) (G : kl_G) (B : Nat) (w : kl_M) {nT nL nS nC nW nM n on : Nat} {ec rs hi : Int32} {cn : Nat → Nat} {O D oO oD gn pl : Nat → Int32} {lch : Nat → Int32} {lco : Nat → Nat} {lpa lwy stb : Nat → Int32} {sco : Nat → Nat} {ctb : Nat → Int32} {cln cw : Nat → Nat} (ccol : Nat → Nat) (t k c x : Int32) (q26 : w 26 = some (.inr (5, [.int ec, .int rs, .int (nI nT), .ref (B + 27), .int (nI n), .ref (B + 28), .ref (B + 29), .int (nI on), .ref (B + 30), .ref (B + 31), .ref (B + 32), .int (nI nL), .ref (B + 33), .ref (B + 34), .ref (B + 35), .ref (B + 36), .int (nI nS), .ref (B + 37), .ref (B + 38), .int (nI nC), .ref (B + 39), .ref (B + 40), .ref (B + 41), .int (nI nW), .ref (B + 42), .int hi, .ref (B + 43), .int (nI nM), .ref (B + 44), .ref (B + 45), .ref (B + 46)]))) (q27 : w 27 = some (kl_aI G 4 ((fun t => nI (cn t))))) (q28 : w 28 = some (kl_aI G 24 O)) (q29 : w 29 = some (kl_aI G 96 D)) (q30 : w 30 = some (kl_aI G 24 oO)) (q31 : w 31 = some (kl_aI G 96 oD)) (q32 : w 32 = some (kl_aZ G 24 gn)) (q33 : w 33 = some (kl_aI G 7 lch)) (q34 : w 34 = some (kl_aI G 7 ((fun t => nI (lco t))))) (q35 : w 35 = some (kl_aI G 7 lpa)) (q36 : w 36 = some (kl_aI G 7 lwy)) (q37 : w 37 = some (kl_aI G 5 stb)) (q38 : w 38 = some (kl_aI G 5 ((fun t => nI (sco t))))) (q39 : w 39 = some (kl_aI G 5 ctb)) (q40 : w 40 = some (kl_aI G 5 ((fun t => nI (cln t))))) (q41 : w 41 = some (kl_aI G 50 ((fun t => nI (cw t))))) (q43 : w 43 = some (kl_aI G 12 pl)) (hmn : nT ≤ 4 ∧ nL ≤ 6 ∧ nS ≤ 4 ∧ nC ≤ 4 ∧ n ≤ 24) (hrp : (md_RP nL lch lco lpa lwy nS stb sco nC ctb cln cw ccol)) (hcn4 : ∀ j, j < nT → cn j ≤ 4) : Met l yX5_update wsX5_update rm_X5_update (kl_Pc G B w [.ref (B + 26), .int t, .int k, .int c, .int x]) (kl_Qi G B (fun r w1 => (¬ (mt_col t c nT cn ∧ (c ≠ 0 ∨ x ≠ 0)) ∧ w1 26 = some (.inr (5, [.int (nI 1), .int rs, .int (nI nT), .ref (B + 27), .int (nI n), .ref (B + 28), .ref (B + 29), .int (nI on), .ref (B + 30), .ref (B + 31), .ref (B + 32), .int (nI nL), .ref (B + 33), .ref (B + 34), .ref (B + 35), .ref (B + 36), .int (nI nS), .ref (B + 37), .ref (B + 38), .int (nI nC), .ref (B + 39), .ref (B + 40), .ref (B + 41), .int (nI nW), .ref (B + 42), .int hi, .ref (B + 43), .int (nI nM), .ref (B + 44), .ref (B + 45), .ref (B + 46)])) ∧ md_sm G w1 n O D ∧ ∀ j : Nat, j ≠ 26 → j ≠ 28 → j ≠ 29 → j ≠ 30 → j ≠ 31 → j ≠ 32 → j ≠ 43 → w1 j = w j) ∨ ((mt_col t c nT cn ∧ (c ≠ 0 ∨ x ≠ 0)) ∧ (k = 0 ∨ ¬ mt_has (md_T n O) D t k) ∧ w1 26 = some (.inr (5, [.int (nI 2), .int rs, .int (nI nT), .ref (B + 27), .int (nI n), .ref (B + 28), .ref (B + 29), .int (nI on), .ref (B + 30), .ref (B + 31), .ref (B + 32), .int (nI nL), .ref (B + 33), .ref (B + 34), .ref (B + 35), .ref (B + 36), .int (nI nS), .ref (B + 37), .ref (B + 38), .int (nI nC), .ref (B + 39), .ref (B + 40), .ref (B + 41), .int (nI nW), .ref (B + 42), .int hi, .ref (B + 43), .int (nI nM), .ref (B + 44), .ref (B + 45), .ref (B + 46)])) ∧ md_sm G w1 n O D ∧ ∀ j : Nat, j ≠ 26 → j ≠ 28 → j ≠ 29 → j ≠ 30 → j ≠ 31 → j ≠ 32 → j ≠ 43 → w1 j = w j) ∨ ((mt_col t c nT cn ∧ (c ≠ 0 ∨ x ≠ 0)) ∧ k ≠ 0 ∧ ∃ (p q : Nat), p < n ∧ q < 4 ∧ c = nI q ∧ O p = t ∧ D (4 * p) = k ∧ x = D (4 * p + q) ∧ r = D (4 * p + q) ∧ w1 26 = some (.inr (5, [.int (nI 0), .int rs, .int (nI nT), .ref (B + 27), .int (nI n), .ref (B + 28), .ref (B + 29), .int (nI on), .ref (B + 30), .ref (B + 31), .ref (B + 32), .int (nI nL), .ref (B + 33), .ref (B + 34), .ref (B + 35), .ref (B + 36), .int (nI nS), .ref (B + 37), .ref (B + 38), .int (nI nC), .ref (B + 39), .ref (B + 40), .ref (B + 41), .int (nI nW), .ref (B + 42), .int hi, .ref (B + 43), .int (nI nM), .ref (B + 44), .ref (B + 45), .ref (B + 46)])) ∧ md_sm G w1 n O D ∧ ∀ j : Nat, j ≠ 26 → j ≠ 28 → j ≠ 29 → j ≠ 30 → j ≠ 31 → j ≠ 32 → j ≠ 43 → w1 j = w j) ∨ ((mt_col t c nT cn ∧ (c ≠ 0 ∨ x ≠ 0)) ∧ k ≠ 0 ∧ ∃ (p q : Nat), p < n ∧ q < 4 ∧ c = nI q ∧ O p = t ∧ D (4 * p) = k ∧ x ≠ D (4 * p + q) ∧ ∃ (sO sD : Nat → Int32) (kp : Int32) (y : Nat) (d2 : Nat → Int32), (∀ p, p < n → sO p = O p) ∧ (∀ k, k < 4 * n → sD k = D k) ∧ md_up n D sO sD nL lch lco lpa lwy p q x kp d2 ∧ md_wy kp y ∧ r = D (4 * p + q) ∧ md_sw y (mt_why (md_T n O) d2 nT nS stb sco nL lch lco lpa nC ctb (fun j i => cw (10 * j + i)) cln) (nI 0) ∧ (∃ h2 on2, w1 26 = some (.inr (5, [.int (nI 0), .int rs, .int (nI nT), .ref (B + 27), .int (nI n), .ref (B + 28), .ref (B + 29), .int (nI on2), .ref (B + 30), .ref (B + 31), .ref (B + 32), .int (nI nL), .ref (B + 33), .ref (B + 34), .ref (B + 35), .ref (B + 36), .int (nI nS), .ref (B + 37), .ref (B + 38), .int (nI nC), .ref (B + 39), .ref (B + 40), .ref (B + 41), .int (nI nW), .ref (B + 42), .int h2, .ref (B + 43), .int (nI nM), .ref (B + 44), .ref (B + 45), .ref (B + 46)]))) ∧ w1 28 = some (kl_aI G 24 O) ∧ w1 29 = some (kl_aI G 96 d2) ∧ md_jk G w1 ∧ ∀ j : Nat, j ≠ 26 → j ≠ 28 → j ≠ 29 → j ≠ 30 → j ≠ 31 → j ≠ 32 → j ≠ 43 → w1 j = w j) ∨ ((mt_col t c nT cn ∧ (c ≠ 0 ∨ x ≠ 0)) ∧ k ≠ 0 ∧ ∃ (p q : Nat), p < n ∧ q < 4 ∧ c = nI q ∧ O p = t ∧ D (4 * p) = k ∧ x ≠ D (4 * p + q) ∧ ∃ (sO sD : Nat → Int32) (kp : Int32) (y : Nat) (d2 : Nat → Int32), (∀ p, p < n → sO p = O p) ∧ (∀ k, k < 4 * n → sD k = D k) ∧ md_up n D sO sD nL lch lco lpa lwy p q x kp d2 ∧ md_wy kp y ∧ ∃ y2, y2 ≠ 0 ∧ md_sw y (mt_why (md_T n O) d2 nT nS stb sco nL lch lco lpa nC ctb (fun j i => cw (10 * j + i)) cln) y2 ∧ (∃ h2 on2, w1 26 = some (.inr (5, [.int (nI 3), .int y2, .int (nI nT), .ref (B + 27), .int (nI n), .ref (B + 28), .ref (B + 29), .int (nI on2), .ref (B + 30), .ref (B + 31), .ref (B + 32), .int (nI nL), .ref (B + 33), .ref (B + 34), .ref (B + 35), .ref (B + 36), .int (nI nS), .ref (B + 37), .ref (B + 38), .int (nI nC), .ref (B + 39), .ref (B + 40), .ref (B + 41), .int (nI nW), .ref (B + 42), .int h2, .ref (B + 43), .int (nI nM), .ref (B + 44), .ref (B + 45), .ref (B + 46)]))) ∧ md_sm G w1 n O D ∧ ∀ j : Nat, j ≠ 26 → j ≠ 28 → j ≠ 29 → j ≠ 30 → j ≠ 31 → j ≠ 32 → j ≠ 43 → w1 j = w j))) 0 0 (kl_fr B) := by
  refine Met.ofW (cc := cX5_update) (maxL := 8) (ret := (some .int)) (by decide) rfl ?_
  intro pg e s m args below meth cd s₁ Bd hml hv
  obtain ⟨rfl, hP0, hK⟩ := hv
  have hx := Bd.exec
  have hb := Bd.bytes
  have hr := Bd.returns
  have hts := atoms_spec (ws := wsX5_update) Bd.pre
  have hown : s.vm.findClass RX5 = some m.cls := findClass_of_methodNamed Bd.named
  have hlocks := Bd.notSynchronized
  have hinX5 : ∀ w ∈ u_ws RX5 TX5 31, w ∈ wsX5_update := by decide +kernel
  have hP := kl_S.rf hP0
  have hl := lv_entry ([.ref (B + 26), .int t, .int k, .int c, .int x]) (n := 8) (Nat.le_of_ble_eq_true rfl)
  rw [lg_entry_eq]
  generalize (lg_sl ([.ref (B + 26), .int t, .int k, .int c, .int x]) ++ List.replicate (8 - (lg_sl ([.ref (B + 26), .int t, .int k, .int c, .int x])).length) Slot.unset).toArray = ls at hl ⊢
  have hl : lv_has ls 8 [(0, .ref (B + 26)), (1, .int t), (2, .int k), (3, .int c), (4, .int x)] := hl
  have frm : ∀ j : Nat, j ≠ 26 → j ≠ 28 → j ≠ 29 → j ≠ 30 → j ≠ 31 → j ≠ 32 → j ≠ 43 → w j = w j := fun j _ _ _ _ _ _ _ => rfl
  obtain ⟨m1, m2, m3, m4, m5⟩ := hmn
  have hrl := md_RP.hrl hrp
  refine lv_aload_n hx hb dX5_update_0 rfl (lv_at hl 0 rfl) ?_
  refine lv_aload_n hx hb dX5_update_1 rfl (lv_at hl 0 rfl) ?_
  refine lv_iload_n hx hb dX5_update_2 rfl (lv_at hl 1 rfl) ?_
  refine lv_iload_n hx hb dX5_update_3 rfl (lv_at hl 3 rfl) ?_
  refine kl_cVi (C := RX5) (i := 26) (As := [.int t, .int c]) (rest := [.ref (B + 26)]) ⟨hx, hb, hml, hown, hts⟩ (c_X5_isColumn l G B _ t c q26 q27 (by omega) hcn4) (cwV 2 hts gX5_update_X5_isColumn rfl rfl rfl (by decide +kernel) ⟨Nat.le_of_ble_eq_true rfl, Nat.le_of_ble_eq_true rfl⟩) hK hP q26 rfl rfl hl.1 rfl (Nat.le_of_ble_eq_true rfl) dX5_update_4 ⟨Nat.le_of_ble_eq_true rfl, Nat.le_of_ble_eq_true rfl⟩ (fun r3 w1 H locs q2 hP => ?_)
  obtain ⟨rfl, hv4⟩ := q2
  refine kl_ifeq (tgt := 19) hx hb hv4 dX5_update_7 (by decide) (fun c7 => ?_) (fun c7 => ?_)
  · refine lv_iconst (v := nI 1) hx hb dX5_update_19 (by decide) ?_
    refine lv_goto (tgt := 24) hx hb dX5_update_20 (by decide) ?_
    refine kl_put (C := RX5) (T := TX5) (N := 31) (ci := 5) (v := .int (nI 1)) (ty := .int) hx hb hts hinX5 tyX5 tyX5_ok nmX5 hown hK hP q26 rfl 0 (by decide) (hts (.fieldLink RX5 71 "KinLedgerModel" "code" "I") (by decide +kernel)) (fun _ h9 => h9) rfl (by decide +kernel) rfl rfl (Nat.le_of_ble_eq_true rfl) dX5_update_24 (fun w5 H locs f6 fr7 hzw5 hP => ?_)
    have f6 : w5 26 = some (.inr (5, [.int (nI 1), .int rs, .int (nI nT), .ref (B + 27), .int (nI n), .ref (B + 28), .ref (B + 29), .int (nI on), .ref (B + 30), .ref (B + 31), .ref (B + 32), .int (nI nL), .ref (B + 33), .ref (B + 34), .ref (B + 35), .ref (B + 36), .int (nI nS), .ref (B + 37), .ref (B + 38), .int (nI nC), .ref (B + 39), .ref (B + 40), .ref (B + 41), .int (nI nW), .ref (B + 42), .int hi, .ref (B + 43), .int (nI nM), .ref (B + 44), .ref (B + 45), .ref (B + 46)])) := f6
    have q27 : w5 27 = some (kl_aI G 4 ((fun t => nI (cn t)))) := (fr7 _ (by decide)).trans q27
    have q28 : w5 28 = some (kl_aI G 24 O) := (fr7 _ (by decide)).trans q28
    have q29 : w5 29 = some (kl_aI G 96 D) := (fr7 _ (by decide)).trans q29
    have q30 : w5 30 = some (kl_aI G 24 oO) := (fr7 _ (by decide)).trans q30
    have q31 : w5 31 = some (kl_aI G 96 oD) := (fr7 _ (by decide)).trans q31
    have q32 : w5 32 = some (kl_aZ G 24 gn) := (fr7 _ (by decide)).trans q32
    have q33 : w5 33 = some (kl_aI G 7 lch) := (fr7 _ (by decide)).trans q33
    have q34 : w5 34 = some (kl_aI G 7 ((fun t => nI (lco t)))) := (fr7 _ (by decide)).trans q34
    have q35 : w5 35 = some (kl_aI G 7 lpa) := (fr7 _ (by decide)).trans q35
    have q36 : w5 36 = some (kl_aI G 7 lwy) := (fr7 _ (by decide)).trans q36
    have q37 : w5 37 = some (kl_aI G 5 stb) := (fr7 _ (by decide)).trans q37
    have q38 : w5 38 = some (kl_aI G 5 ((fun t => nI (sco t)))) := (fr7 _ (by decide)).trans q38
    have q39 : w5 39 = some (kl_aI G 5 ctb) := (fr7 _ (by decide)).trans q39
    have q40 : w5 40 = some (kl_aI G 5 ((fun t => nI (cln t)))) := (fr7 _ (by decide)).trans q40
    have q41 : w5 41 = some (kl_aI G 50 ((fun t => nI (cw t)))) := (fr7 _ (by decide)).trans q41
    have q43 : w5 43 = some (kl_aI G 12 pl) := (fr7 _ (by decide)).trans q43
    have frm : ∀ j : Nat, j ≠ 26 → j ≠ 28 → j ≠ 29 → j ≠ 30 → j ≠ 31 → j ≠ 32 → j ≠ 43 → w5 j = w j := fun j k0 k1 k2 k3 k4 k5 k6 => (fr7 j k0).trans (frm j k0 k1 k2 k3 k4 k5 k6)
    refine lv_aload_n hx hb dX5_update_27 rfl (lv_at hl 0 rfl) ?_
    refine kl_get (C := RX5) (T := TX5) (N := 31) (ci := 5) hx hb hts hinX5 hown hK hP f6 rfl 0 (by decide) (hts (.fieldLink RX5 71 "KinLedgerModel" "code" "I") (by decide +kernel)) (fun _ h9 => h9) rfl dX5_update_28 ?_
    refine kl_z_le (tgt := 36) hx hb (by omega) dX5_update_31 (by decide) (fun c31 => absurd c31 (by omega)) (fun c31 => ?_)
    refine lv_iconst (v := nI 0) hx hb dX5_update_34 (by decide) ?_
    exact kl_iret hx hb hr hlocks hP (Or.inl (⟨fun z => c7 z.1, f6, ⟨⟨_, _, q28, q29, fun _ _ => rfl, fun _ _ => rfl⟩, ⟨_, _, _, _, q30, q31, q32, q43⟩⟩, frm⟩)) dX5_update_35
  · refine lv_iload_n hx hb dX5_update_10 rfl (lv_at hl 3 rfl) ?_
    refine lv_if_ne (tgt := 23) hx hb dX5_update_11 (by decide) (fun c11 => ?_) (fun c11 => ?_)
    · refine lv_iconst (v := nI 0) hx hb dX5_update_23 (by decide) ?_
      refine kl_put (C := RX5) (T := TX5) (N := 31) (ci := 5) (v := .int (nI 0)) (ty := .int) hx hb hts hinX5 tyX5 tyX5_ok nmX5 hown hK hP q26 rfl 0 (by decide) (hts (.fieldLink RX5 71 "KinLedgerModel" "code" "I") (by decide +kernel)) (fun _ h9 => h9) rfl (by decide +kernel) rfl rfl (Nat.le_of_ble_eq_true rfl) dX5_update_24 (fun w8 H locs f9 fr10 hzw8 hP => ?_)
      have f9 : w8 26 = some (.inr (5, [.int (nI 0), .int rs, .int (nI nT), .ref (B + 27), .int (nI n), .ref (B + 28), .ref (B + 29), .int (nI on), .ref (B + 30), .ref (B + 31), .ref (B + 32), .int (nI nL), .ref (B + 33), .ref (B + 34), .ref (B + 35), .ref (B + 36), .int (nI nS), .ref (B + 37), .ref (B + 38), .int (nI nC), .ref (B + 39), .ref (B + 40), .ref (B + 41), .int (nI nW), .ref (B + 42), .int hi, .ref (B + 43), .int (nI nM), .ref (B + 44), .ref (B + 45), .ref (B + 46)])) := f9
      have q27 : w8 27 = some (kl_aI G 4 ((fun t => nI (cn t)))) := (fr10 _ (by decide)).trans q27
      have q28 : w8 28 = some (kl_aI G 24 O) := (fr10 _ (by decide)).trans q28
      have q29 : w8 29 = some (kl_aI G 96 D) := (fr10 _ (by decide)).trans q29
      have q30 : w8 30 = some (kl_aI G 24 oO) := (fr10 _ (by decide)).trans q30
      have q31 : w8 31 = some (kl_aI G 96 oD) := (fr10 _ (by decide)).trans q31
      have q32 : w8 32 = some (kl_aZ G 24 gn) := (fr10 _ (by decide)).trans q32
      have q33 : w8 33 = some (kl_aI G 7 lch) := (fr10 _ (by decide)).trans q33
      have q34 : w8 34 = some (kl_aI G 7 ((fun t => nI (lco t)))) := (fr10 _ (by decide)).trans q34
      have q35 : w8 35 = some (kl_aI G 7 lpa) := (fr10 _ (by decide)).trans q35
      have q36 : w8 36 = some (kl_aI G 7 lwy) := (fr10 _ (by decide)).trans q36
      have q37 : w8 37 = some (kl_aI G 5 stb) := (fr10 _ (by decide)).trans q37
      have q38 : w8 38 = some (kl_aI G 5 ((fun t => nI (sco t)))) := (fr10 _ (by decide)).trans q38
      have q39 : w8 39 = some (kl_aI G 5 ctb) := (fr10 _ (by decide)).trans q39
      have q40 : w8 40 = some (kl_aI G 5 ((fun t => nI (cln t)))) := (fr10 _ (by decide)).trans q40
      have q41 : w8 41 = some (kl_aI G 50 ((fun t => nI (cw t)))) := (fr10 _ (by decide)).trans q41
      have q43 : w8 43 = some (kl_aI G 12 pl) := (fr10 _ (by decide)).trans q43
      have frm : ∀ j : Nat, j ≠ 26 → j ≠ 28 → j ≠ 29 → j ≠ 30 → j ≠ 31 → j ≠ 32 → j ≠ 43 → w8 j = w j := fun j k0 k1 k2 k3 k4 k5 k6 => (fr10 j k0).trans (frm j k0 k1 k2 k3 k4 k5 k6)
      refine lv_aload_n hx hb dX5_update_27 rfl (lv_at hl 0 rfl) ?_
      refine kl_get (C := RX5) (T := TX5) (N := 31) (ci := 5) hx hb hts hinX5 hown hK hP f9 rfl 0 (by decide) (hts (.fieldLink RX5 71 "KinLedgerModel" "code" "I") (by decide +kernel)) (fun _ h9 => h9) rfl dX5_update_28 ?_
      refine kl_z_le (tgt := 36) hx hb (by omega) dX5_update_31 (by decide) (fun c31 => ?_) (fun c31 => absurd c31 (by omega))
      have hok : (mt_col t c nT cn ∧ (c ≠ 0 ∨ x ≠ 0)) := ⟨c7, Or.inl c11⟩
      obtain ⟨jj, q, hjj, rfl, hq4, rfl⟩ := c7
      have hq5 := hcn4 jj hjj
      have hq0 : 0 < q := Nat.pos_of_ne_zero (fun z => c11 (by rw [z]; rfl))
      refine lv_aload_n hx hb dX5_update_36 rfl (lv_at hl 0 rfl) ?_
      refine lv_iload_n hx hb dX5_update_37 rfl (lv_at hl 1 rfl) ?_
      refine lv_iload_n hx hb dX5_update_38 rfl (lv_at hl 2 rfl) ?_
      refine kl_cVi (C := RX5) (i := 26) (As := [.int (nI jj), .int k]) (rest := []) ⟨hx, hb, hml, hown, hts⟩ (c_X5_find l G B _ (nI jj) k f9 q28 q29 (by omega) (kl_nm1 (by omega))) (cwV 2 hts gX5_update_X5_find rfl rfl rfl (by decide +kernel) ⟨Nat.le_of_ble_eq_true rfl, Nat.le_of_ble_eq_true rfl⟩) hK hP f9 rfl rfl hl.1 rfl (Nat.le_of_ble_eq_true rfl) dX5_update_39 ⟨Nat.le_of_ble_eq_true rfl, Nat.le_of_ble_eq_true rfl⟩ (fun r13 w11 H locs q12 hP => ?_)
      obtain ⟨rfl, hv14⟩ := q12
      rcases hv14 with ⟨rfl, hv14⟩ | ⟨p15, hp15, rfl, hv14⟩
      · refine lv_istore (lv' := [(5, .int ((-1))), (0, .ref (B + 26)), (1, .int (nI jj)), (2, .int k), (3, .int (nI q)), (4, .int x)]) hx hb dX5_update_42 hl (by decide) rfl (fun ls hl => ?_)
        refine lv_aload_n hx hb dX5_update_44 rfl (lv_at hl 1 rfl) ?_
        refine lv_iload hx hb dX5_update_45 (lv_at hl 0 rfl) ?_
        refine lv_if_lt (tgt := 54) hx hb dX5_update_47 (by decide) (fun c47 => ?_) (fun c47 => absurd c47 (by decide))
        refine lv_iconst (v := nI 2) hx hb dX5_update_54 (by decide) ?_
        refine lv_goto (tgt := 59) hx hb dX5_update_55 (by decide) ?_
        refine kl_put (C := RX5) (T := TX5) (N := 31) (ci := 5) (v := .int (nI 2)) (ty := .int) hx hb hts hinX5 tyX5 tyX5_ok nmX5 hown hK hP f9 rfl 0 (by decide) (hts (.fieldLink RX5 71 "KinLedgerModel" "code" "I") (by decide +kernel)) (fun _ h9 => h9) rfl (by decide +kernel) rfl rfl (Nat.le_of_ble_eq_true rfl) dX5_update_59 (fun w16 H locs f17 fr18 hzw16 hP => ?_)
        have f17 : w16 26 = some (.inr (5, [.int (nI 2), .int rs, .int (nI nT), .ref (B + 27), .int (nI n), .ref (B + 28), .ref (B + 29), .int (nI on), .ref (B + 30), .ref (B + 31), .ref (B + 32), .int (nI nL), .ref (B + 33), .ref (B + 34), .ref (B + 35), .ref (B + 36), .int (nI nS), .ref (B + 37), .ref (B + 38), .int (nI nC), .ref (B + 39), .ref (B + 40), .ref (B + 41), .int (nI nW), .ref (B + 42), .int hi, .ref (B + 43), .int (nI nM), .ref (B + 44), .ref (B + 45), .ref (B + 46)])) := f17
        have q27 : w16 27 = some (kl_aI G 4 ((fun t => nI (cn t)))) := (fr18 _ (by decide)).trans q27
        have q28 : w16 28 = some (kl_aI G 24 O) := (fr18 _ (by decide)).trans q28
        have q29 : w16 29 = some (kl_aI G 96 D) := (fr18 _ (by decide)).trans q29
        have q30 : w16 30 = some (kl_aI G 24 oO) := (fr18 _ (by decide)).trans q30
        have q31 : w16 31 = some (kl_aI G 96 oD) := (fr18 _ (by decide)).trans q31
        have q32 : w16 32 = some (kl_aZ G 24 gn) := (fr18 _ (by decide)).trans q32
        have q33 : w16 33 = some (kl_aI G 7 lch) := (fr18 _ (by decide)).trans q33
        have q34 : w16 34 = some (kl_aI G 7 ((fun t => nI (lco t)))) := (fr18 _ (by decide)).trans q34
        have q35 : w16 35 = some (kl_aI G 7 lpa) := (fr18 _ (by decide)).trans q35
        have q36 : w16 36 = some (kl_aI G 7 lwy) := (fr18 _ (by decide)).trans q36
        have q37 : w16 37 = some (kl_aI G 5 stb) := (fr18 _ (by decide)).trans q37
        have q38 : w16 38 = some (kl_aI G 5 ((fun t => nI (sco t)))) := (fr18 _ (by decide)).trans q38
        have q39 : w16 39 = some (kl_aI G 5 ctb) := (fr18 _ (by decide)).trans q39
        have q40 : w16 40 = some (kl_aI G 5 ((fun t => nI (cln t)))) := (fr18 _ (by decide)).trans q40
        have q41 : w16 41 = some (kl_aI G 50 ((fun t => nI (cw t)))) := (fr18 _ (by decide)).trans q41
        have q43 : w16 43 = some (kl_aI G 12 pl) := (fr18 _ (by decide)).trans q43
        have frm : ∀ j : Nat, j ≠ 26 → j ≠ 28 → j ≠ 29 → j ≠ 30 → j ≠ 31 → j ≠ 32 → j ≠ 43 → w16 j = w j := fun j k0 k1 k2 k3 k4 k5 k6 => (fr18 j k0).trans (frm j k0 k1 k2 k3 k4 k5 k6)
        refine lv_aload_n hx hb dX5_update_62 rfl (lv_at hl 1 rfl) ?_
        refine kl_get (C := RX5) (T := TX5) (N := 31) (ci := 5) hx hb hts hinX5 hown hK hP f17 rfl 0 (by decide) (hts (.fieldLink RX5 71 "KinLedgerModel" "code" "I") (by decide +kernel)) (fun _ h9 => h9) rfl dX5_update_63 ?_
        refine kl_z_le (tgt := 71) hx hb (by omega) dX5_update_66 (by decide) (fun c66 => absurd c66 (by omega)) (fun c66 => ?_)
        refine lv_iconst (v := nI 0) hx hb dX5_update_69 (by decide) ?_
        exact kl_iret hx hb hr hlocks hP (Or.inr (Or.inl (⟨hok, Or.inr (mt_has_n hv14), f17, ⟨⟨_, _, q28, q29, fun _ _ => rfl, fun _ _ => rfl⟩, ⟨_, _, _, _, q30, q31, q32, q43⟩⟩, frm⟩))) dX5_update_70
      · obtain ⟨hpn, hpt⟩ := md_ne (kl_nm1 (by omega)) hv14.1
        refine lv_istore (lv' := [(5, .int (nI p15)), (0, .ref (B + 26)), (1, .int (nI jj)), (2, .int k), (3, .int (nI q)), (4, .int x)]) hx hb dX5_update_42 hl (by decide) rfl (fun ls hl => ?_)
        refine lv_aload_n hx hb dX5_update_44 rfl (lv_at hl 1 rfl) ?_
        refine lv_iload hx hb dX5_update_45 (lv_at hl 0 rfl) ?_
        refine kl_z_lt (tgt := 54) hx hb (by omega) dX5_update_47 (by decide) ?_
        refine lv_iload_n hx hb dX5_update_50 rfl (lv_at hl 3 rfl) ?_
        refine lv_if_ne (tgt := 58) hx hb dX5_update_51 (by decide) (fun c51 => ?_) (fun c51 => ?_)
        · refine lv_iconst (v := nI 0) hx hb dX5_update_58 (by decide) ?_
          refine kl_put (C := RX5) (T := TX5) (N := 31) (ci := 5) (v := .int (nI 0)) (ty := .int) hx hb hts hinX5 tyX5 tyX5_ok nmX5 hown hK hP f9 rfl 0 (by decide) (hts (.fieldLink RX5 71 "KinLedgerModel" "code" "I") (by decide +kernel)) (fun _ h9 => h9) rfl (by decide +kernel) rfl rfl (Nat.le_of_ble_eq_true rfl) dX5_update_59 (fun w19 H locs f20 fr21 hzw19 hP => ?_)
          have f20 : w19 26 = some (.inr (5, [.int (nI 0), .int rs, .int (nI nT), .ref (B + 27), .int (nI n), .ref (B + 28), .ref (B + 29), .int (nI on), .ref (B + 30), .ref (B + 31), .ref (B + 32), .int (nI nL), .ref (B + 33), .ref (B + 34), .ref (B + 35), .ref (B + 36), .int (nI nS), .ref (B + 37), .ref (B + 38), .int (nI nC), .ref (B + 39), .ref (B + 40), .ref (B + 41), .int (nI nW), .ref (B + 42), .int hi, .ref (B + 43), .int (nI nM), .ref (B + 44), .ref (B + 45), .ref (B + 46)])) := f20
          have q27 : w19 27 = some (kl_aI G 4 ((fun t => nI (cn t)))) := (fr21 _ (by decide)).trans q27
          have q28 : w19 28 = some (kl_aI G 24 O) := (fr21 _ (by decide)).trans q28
          have q29 : w19 29 = some (kl_aI G 96 D) := (fr21 _ (by decide)).trans q29
          have q30 : w19 30 = some (kl_aI G 24 oO) := (fr21 _ (by decide)).trans q30
          have q31 : w19 31 = some (kl_aI G 96 oD) := (fr21 _ (by decide)).trans q31
          have q32 : w19 32 = some (kl_aZ G 24 gn) := (fr21 _ (by decide)).trans q32
          have q33 : w19 33 = some (kl_aI G 7 lch) := (fr21 _ (by decide)).trans q33
          have q34 : w19 34 = some (kl_aI G 7 ((fun t => nI (lco t)))) := (fr21 _ (by decide)).trans q34
          have q35 : w19 35 = some (kl_aI G 7 lpa) := (fr21 _ (by decide)).trans q35
          have q36 : w19 36 = some (kl_aI G 7 lwy) := (fr21 _ (by decide)).trans q36
          have q37 : w19 37 = some (kl_aI G 5 stb) := (fr21 _ (by decide)).trans q37
          have q38 : w19 38 = some (kl_aI G 5 ((fun t => nI (sco t)))) := (fr21 _ (by decide)).trans q38
          have q39 : w19 39 = some (kl_aI G 5 ctb) := (fr21 _ (by decide)).trans q39
          have q40 : w19 40 = some (kl_aI G 5 ((fun t => nI (cln t)))) := (fr21 _ (by decide)).trans q40
          have q41 : w19 41 = some (kl_aI G 50 ((fun t => nI (cw t)))) := (fr21 _ (by decide)).trans q41
          have q43 : w19 43 = some (kl_aI G 12 pl) := (fr21 _ (by decide)).trans q43
          have frm : ∀ j : Nat, j ≠ 26 → j ≠ 28 → j ≠ 29 → j ≠ 30 → j ≠ 31 → j ≠ 32 → j ≠ 43 → w19 j = w j := fun j k0 k1 k2 k3 k4 k5 k6 => (fr21 j k0).trans (frm j k0 k1 k2 k3 k4 k5 k6)
          refine lv_aload_n hx hb dX5_update_62 rfl (lv_at hl 1 rfl) ?_
          refine kl_get (C := RX5) (T := TX5) (N := 31) (ci := 5) hx hb hts hinX5 hown hK hP f20 rfl 0 (by decide) (hts (.fieldLink RX5 71 "KinLedgerModel" "code" "I") (by decide +kernel)) (fun _ h9 => h9) rfl dX5_update_63 ?_
          refine kl_z_le (tgt := 71) hx hb (by omega) dX5_update_66 (by decide) (fun c66 => ?_) (fun c66 => absurd c66 (by omega))
          have hok2 : k ≠ 0 := c51
          refine lv_aload_n hx hb dX5_update_71 rfl (lv_at hl 1 rfl) ?_
          refine kl_get (C := RX5) (T := TX5) (N := 31) (ci := 5) hx hb hts hinX5 hown hK hP f20 rfl 6 (by decide) (hts (.fieldLink RX5 16 "KinLedgerModel" "cells" "[I") (by decide +kernel)) (fun _ h9 => h9) rfl dX5_update_72 ?_
          refine lv_iconst (v := nI 4) hx hb dX5_update_75 (by decide) ?_
          refine lv_iload hx hb dX5_update_76 (lv_at hl 0 rfl) ?_
          refine lv_imul hx hb dX5_update_78 ?_
          refine kl_top (z := nI (4 * p15)) (pk_mul _ _) ?_
          refine lv_iload_n hx hb dX5_update_79 rfl (lv_at hl 4 rfl) ?_
          refine lv_iadd hx hb dX5_update_80 ?_
          refine kl_top (z := nI (4 * p15 + q)) (by first | exact nI_add _ _ | (rw [nI_add]; first | rfl | (congr 1; omega))) ?_
          refine kl_iald hx hb hK hP q29 (by omega) (by omega) dX5_update_81 ?_
          refine lv_istore (lv' := [(6, .int (D (4 * p15 + q))), (5, .int (nI p15)), (0, .ref (B + 26)), (1, .int (nI jj)), (2, .int k), (3, .int (nI q)), (4, .int x)]) hx hb dX5_update_82 hl (by decide) rfl (fun ls hl => ?_)
          refine lv_iload hx hb dX5_update_84 (lv_at hl 0 rfl) ?_
          refine lv_iload hx hb dX5_update_86 (lv_at hl 6 rfl) ?_
          refine lv_icmp_ne (tgt := 94) hx hb dX5_update_88 (by decide) (fun c88 => ?_) (fun c88 => ?_)
          · refine lv_aload_n hx hb dX5_update_94 rfl (lv_at hl 2 rfl) ?_
            refine kl_cVv (C := RX5) (i := 26) (As := []) (rest := []) ⟨hx, hb, hml, hown, hts⟩ (c_X5_remember l G B _ f20 q28 q29 q30 q31 q32 (by omega)) (cwV 0 hts gX5_update_X5_remember rfl rfl rfl (by decide +kernel) ⟨Nat.le_of_ble_eq_true rfl, Nat.le_of_ble_eq_true rfl⟩) hK hP f20 rfl rfl hl.1 rfl (Nat.le_of_ble_eq_true rfl) dX5_update_95 ⟨Nat.le_of_ble_eq_true rfl, Nat.le_of_ble_eq_true rfl⟩ (fun w22 H locs q23 hP => ?_)
            obtain ⟨f25, ⟨sO, sD, sG, f26, f27, f28, hsO, hsD⟩, fr29⟩ := q23
            have q27 : w22 27 = some (kl_aI G 4 ((fun t => nI (cn t)))) := (fr29 _ (by decide) (by decide) (by decide) (by decide)).trans q27
            have q28 : w22 28 = some (kl_aI G 24 O) := (fr29 _ (by decide) (by decide) (by decide) (by decide)).trans q28
            have q29 : w22 29 = some (kl_aI G 96 D) := (fr29 _ (by decide) (by decide) (by decide) (by decide)).trans q29
            have q33 : w22 33 = some (kl_aI G 7 lch) := (fr29 _ (by decide) (by decide) (by decide) (by decide)).trans q33
            have q34 : w22 34 = some (kl_aI G 7 ((fun t => nI (lco t)))) := (fr29 _ (by decide) (by decide) (by decide) (by decide)).trans q34
            have q35 : w22 35 = some (kl_aI G 7 lpa) := (fr29 _ (by decide) (by decide) (by decide) (by decide)).trans q35
            have q36 : w22 36 = some (kl_aI G 7 lwy) := (fr29 _ (by decide) (by decide) (by decide) (by decide)).trans q36
            have q37 : w22 37 = some (kl_aI G 5 stb) := (fr29 _ (by decide) (by decide) (by decide) (by decide)).trans q37
            have q38 : w22 38 = some (kl_aI G 5 ((fun t => nI (sco t)))) := (fr29 _ (by decide) (by decide) (by decide) (by decide)).trans q38
            have q39 : w22 39 = some (kl_aI G 5 ctb) := (fr29 _ (by decide) (by decide) (by decide) (by decide)).trans q39
            have q40 : w22 40 = some (kl_aI G 5 ((fun t => nI (cln t)))) := (fr29 _ (by decide) (by decide) (by decide) (by decide)).trans q40
            have q41 : w22 41 = some (kl_aI G 50 ((fun t => nI (cw t)))) := (fr29 _ (by decide) (by decide) (by decide) (by decide)).trans q41
            have q43 : w22 43 = some (kl_aI G 12 pl) := (fr29 _ (by decide) (by decide) (by decide) (by decide)).trans q43
            have f25 : w22 26 = some (.inr (5, [.int (nI 0), .int rs, .int (nI nT), .ref (B + 27), .int (nI n), .ref (B + 28), .ref (B + 29), .int (nI n), .ref (B + 30), .ref (B + 31), .ref (B + 32), .int (nI nL), .ref (B + 33), .ref (B + 34), .ref (B + 35), .ref (B + 36), .int (nI nS), .ref (B + 37), .ref (B + 38), .int (nI nC), .ref (B + 39), .ref (B + 40), .ref (B + 41), .int (nI nW), .ref (B + 42), .int hi, .ref (B + 43), .int (nI nM), .ref (B + 44), .ref (B + 45), .ref (B + 46)])) := f25
            have f26 : w22 30 = some (kl_aI G 24 sO) := f26
            have f27 : w22 31 = some (kl_aI G 96 sD) := f27
            have f28 : w22 32 = some (kl_aZ G 24 sG) := f28
            have frm : ∀ j : Nat, j ≠ 26 → j ≠ 28 → j ≠ 29 → j ≠ 30 → j ≠ 31 → j ≠ 32 → j ≠ 43 → w22 j = w j := fun j k0 k1 k2 k3 k4 k5 k6 => (fr29 j k0 k3 k4 k5).trans (frm j k0 k1 k2 k3 k4 k5 k6)
            refine lv_iconst (v := nI 0) hx hb dX5_update_98 (by decide) ?_
            refine lv_istore (lv' := [(7, .int (nI 0)), (6, .int (D (4 * p15 + q))), (5, .int (nI p15)), (0, .ref (B + 26)), (1, .int (nI jj)), (2, .int k), (3, .int (nI q)), (4, .int x)]) hx hb dX5_update_99 hl (by decide) rfl (fun ls hl => ?_)
            refine lv_iload_n hx hb dX5_update_101 rfl (lv_at hl 6 rfl) ?_
            refine kl_z_ne (tgt := 118) hx hb (by omega) dX5_update_102 (by decide) (fun c102 => ?_) (fun c102 => absurd c102 (by omega))
            refine lv_aload_n hx hb dX5_update_118 rfl (lv_at hl 3 rfl) ?_
            refine kl_get (C := RX5) (T := TX5) (N := 31) (ci := 5) hx hb hts hinX5 hown hK hP f25 rfl 6 (by decide) (hts (.fieldLink RX5 16 "KinLedgerModel" "cells" "[I") (by decide +kernel)) (fun _ h9 => h9) rfl dX5_update_119 ?_
            refine lv_iconst (v := nI 4) hx hb dX5_update_122 (by decide) ?_
            refine lv_iload hx hb dX5_update_123 (lv_at hl 2 rfl) ?_
            refine lv_imul hx hb dX5_update_125 ?_
            refine kl_top (z := nI (4 * p15)) (pk_mul _ _) ?_
            refine lv_iload_n hx hb dX5_update_126 rfl (lv_at hl 6 rfl) ?_
            refine lv_iadd hx hb dX5_update_127 ?_
            refine kl_top (z := nI (4 * p15 + q)) (by first | exact nI_add _ _ | (rw [nI_add]; first | rfl | (congr 1; omega))) ?_
            refine lv_iload hx hb dX5_update_128 (lv_at hl 7 rfl) ?_
            refine kl_iast hx hb hK hP q29 (by omega) (by omega) dX5_update_130 (fun w30 H locs f31 fr32 hzw30 hP => ?_)
            have f25 : w30 26 = some (.inr (5, [.int (nI 0), .int rs, .int (nI nT), .ref (B + 27), .int (nI n), .ref (B + 28), .ref (B + 29), .int (nI n), .ref (B + 30), .ref (B + 31), .ref (B + 32), .int (nI nL), .ref (B + 33), .ref (B + 34), .ref (B + 35), .ref (B + 36), .int (nI nS), .ref (B + 37), .ref (B + 38), .int (nI nC), .ref (B + 39), .ref (B + 40), .ref (B + 41), .int (nI nW), .ref (B + 42), .int hi, .ref (B + 43), .int (nI nM), .ref (B + 44), .ref (B + 45), .ref (B + 46)])) := (fr32 _ (by decide)).trans f25
            have q27 : w30 27 = some (kl_aI G 4 ((fun t => nI (cn t)))) := (fr32 _ (by decide)).trans q27
            have q28 : w30 28 = some (kl_aI G 24 O) := (fr32 _ (by decide)).trans q28
            have f26 : w30 30 = some (kl_aI G 24 sO) := (fr32 _ (by decide)).trans f26
            have f27 : w30 31 = some (kl_aI G 96 sD) := (fr32 _ (by decide)).trans f27
            have f28 : w30 32 = some (kl_aZ G 24 sG) := (fr32 _ (by decide)).trans f28
            have q33 : w30 33 = some (kl_aI G 7 lch) := (fr32 _ (by decide)).trans q33
            have q34 : w30 34 = some (kl_aI G 7 ((fun t => nI (lco t)))) := (fr32 _ (by decide)).trans q34
            have q35 : w30 35 = some (kl_aI G 7 lpa) := (fr32 _ (by decide)).trans q35
            have q36 : w30 36 = some (kl_aI G 7 lwy) := (fr32 _ (by decide)).trans q36
            have q37 : w30 37 = some (kl_aI G 5 stb) := (fr32 _ (by decide)).trans q37
            have q38 : w30 38 = some (kl_aI G 5 ((fun t => nI (sco t)))) := (fr32 _ (by decide)).trans q38
            have q39 : w30 39 = some (kl_aI G 5 ctb) := (fr32 _ (by decide)).trans q39
            have q40 : w30 40 = some (kl_aI G 5 ((fun t => nI (cln t)))) := (fr32 _ (by decide)).trans q40
            have q41 : w30 41 = some (kl_aI G 50 ((fun t => nI (cw t)))) := (fr32 _ (by decide)).trans q41
            have q43 : w30 43 = some (kl_aI G 12 pl) := (fr32 _ (by decide)).trans q43
            have frm : ∀ j : Nat, j ≠ 26 → j ≠ 28 → j ≠ 29 → j ≠ 30 → j ≠ 31 → j ≠ 32 → j ≠ 43 → w30 j = w j := fun j k0 k1 k2 k3 k4 k5 k6 => (fr32 j k2).trans (frm j k0 k1 k2 k3 k4 k5 k6)
            refine lv_aload_n hx hb dX5_update_131 rfl (lv_at hl 3 rfl) ?_
            refine lv_aload_n hx hb dX5_update_132 rfl (lv_at hl 3 rfl) ?_
            refine lv_iload hx hb dX5_update_133 (lv_at hl 0 rfl) ?_
            refine lv_iconst (v := nI 3) hx hb dX5_update_135 (by decide) ?_
            refine kl_cVi (C := RX5) (i := 26) (As := [.int (nI 0), .int (nI 3)]) (rest := [.ref (B + 26)]) ⟨hx, hb, hml, hown, hts⟩ (c_X5_settle l G B _ ccol 0 3 f25 q28 f31 f26 f27 q33 q34 q35 q36 q37 q38 q39 q40 q41 q43 ⟨by omega, by omega, by omega, by omega, by omega⟩ hrp (by omega) (by omega) (by omega)) (cwV 2 hts gX5_update_X5_settle rfl rfl rfl (by decide +kernel) ⟨Nat.le_of_ble_eq_true rfl, Nat.le_of_ble_eq_true rfl⟩) hK hP f25 rfl rfl hl.1 rfl (Nat.le_of_ble_eq_true rfl) dX5_update_136 ⟨Nat.le_of_ble_eq_true rfl, Nat.le_of_ble_eq_true rfl⟩ (fun r35 w33 H locs q34 hP => ?_)
            rcases q34 with ⟨hsw, rfl, ⟨h9, f36⟩, f37, f38, ⟨p9, f39⟩, fr40⟩ | ⟨y2, hy0, hsw, rfl, ⟨h9, f36⟩, ⟨O2, D2, f37, f38, hO2, hD2⟩, ⟨p9, f39⟩, fr40⟩
            · have q27 : w33 27 = some (kl_aI G 4 ((fun t => nI (cn t)))) := (fr40 _ (by decide) (by decide) (by decide) (by decide)).trans q27
              have f26 : w33 30 = some (kl_aI G 24 sO) := (fr40 _ (by decide) (by decide) (by decide) (by decide)).trans f26
              have f27 : w33 31 = some (kl_aI G 96 sD) := (fr40 _ (by decide) (by decide) (by decide) (by decide)).trans f27
              have f28 : w33 32 = some (kl_aZ G 24 sG) := (fr40 _ (by decide) (by decide) (by decide) (by decide)).trans f28
              have q33 : w33 33 = some (kl_aI G 7 lch) := (fr40 _ (by decide) (by decide) (by decide) (by decide)).trans q33
              have q34 : w33 34 = some (kl_aI G 7 ((fun t => nI (lco t)))) := (fr40 _ (by decide) (by decide) (by decide) (by decide)).trans q34
              have q35 : w33 35 = some (kl_aI G 7 lpa) := (fr40 _ (by decide) (by decide) (by decide) (by decide)).trans q35
              have q36 : w33 36 = some (kl_aI G 7 lwy) := (fr40 _ (by decide) (by decide) (by decide) (by decide)).trans q36
              have q37 : w33 37 = some (kl_aI G 5 stb) := (fr40 _ (by decide) (by decide) (by decide) (by decide)).trans q37
              have q38 : w33 38 = some (kl_aI G 5 ((fun t => nI (sco t)))) := (fr40 _ (by decide) (by decide) (by decide) (by decide)).trans q38
              have q39 : w33 39 = some (kl_aI G 5 ctb) := (fr40 _ (by decide) (by decide) (by decide) (by decide)).trans q39
              have q40 : w33 40 = some (kl_aI G 5 ((fun t => nI (cln t)))) := (fr40 _ (by decide) (by decide) (by decide) (by decide)).trans q40
              have q41 : w33 41 = some (kl_aI G 50 ((fun t => nI (cw t)))) := (fr40 _ (by decide) (by decide) (by decide) (by decide)).trans q41
              have f36 : w33 26 = some (.inr (5, [.int (nI 0), .int rs, .int (nI nT), .ref (B + 27), .int (nI n), .ref (B + 28), .ref (B + 29), .int (nI n), .ref (B + 30), .ref (B + 31), .ref (B + 32), .int (nI nL), .ref (B + 33), .ref (B + 34), .ref (B + 35), .ref (B + 36), .int (nI nS), .ref (B + 37), .ref (B + 38), .int (nI nC), .ref (B + 39), .ref (B + 40), .ref (B + 41), .int (nI nW), .ref (B + 42), .int h9, .ref (B + 43), .int (nI nM), .ref (B + 44), .ref (B + 45), .ref (B + 46)])) := f36
              have f37 : w33 28 = some (kl_aI G 24 O) := f37
              have f38 : w33 29 = some (kl_aI G 96 (upd D (4 * p15 + q) x)) := f38
              have f39 : w33 43 = some (kl_aI G 12 p9) := f39
              have frm : ∀ j : Nat, j ≠ 26 → j ≠ 28 → j ≠ 29 → j ≠ 30 → j ≠ 31 → j ≠ 32 → j ≠ 43 → w33 j = w j := fun j k0 k1 k2 k3 k4 k5 k6 => (fr40 j k0 k1 k2 k6).trans (frm j k0 k1 k2 k3 k4 k5 k6)
              refine kl_put (C := RX5) (T := TX5) (N := 31) (ci := 5) (v := .int (nI 0)) (ty := .int) hx hb hts hinX5 tyX5 tyX5_ok nmX5 hown hK hP f36 rfl 0 (by decide) (hts (.fieldLink RX5 71 "KinLedgerModel" "code" "I") (by decide +kernel)) (fun _ h9 => h9) rfl (by decide +kernel) rfl rfl (Nat.le_of_ble_eq_true rfl) dX5_update_139 (fun w41 H locs f42 fr43 hzw41 hP => ?_)
              have f42 : w41 26 = some (.inr (5, [.int (nI 0), .int rs, .int (nI nT), .ref (B + 27), .int (nI n), .ref (B + 28), .ref (B + 29), .int (nI n), .ref (B + 30), .ref (B + 31), .ref (B + 32), .int (nI nL), .ref (B + 33), .ref (B + 34), .ref (B + 35), .ref (B + 36), .int (nI nS), .ref (B + 37), .ref (B + 38), .int (nI nC), .ref (B + 39), .ref (B + 40), .ref (B + 41), .int (nI nW), .ref (B + 42), .int h9, .ref (B + 43), .int (nI nM), .ref (B + 44), .ref (B + 45), .ref (B + 46)])) := f42
              have q27 : w41 27 = some (kl_aI G 4 ((fun t => nI (cn t)))) := (fr43 _ (by decide)).trans q27
              have f37 : w41 28 = some (kl_aI G 24 O) := (fr43 _ (by decide)).trans f37
              have f38 : w41 29 = some (kl_aI G 96 (upd D (4 * p15 + q) x)) := (fr43 _ (by decide)).trans f38
              have f26 : w41 30 = some (kl_aI G 24 sO) := (fr43 _ (by decide)).trans f26
              have f27 : w41 31 = some (kl_aI G 96 sD) := (fr43 _ (by decide)).trans f27
              have f28 : w41 32 = some (kl_aZ G 24 sG) := (fr43 _ (by decide)).trans f28
              have q33 : w41 33 = some (kl_aI G 7 lch) := (fr43 _ (by decide)).trans q33
              have q34 : w41 34 = some (kl_aI G 7 ((fun t => nI (lco t)))) := (fr43 _ (by decide)).trans q34
              have q35 : w41 35 = some (kl_aI G 7 lpa) := (fr43 _ (by decide)).trans q35
              have q36 : w41 36 = some (kl_aI G 7 lwy) := (fr43 _ (by decide)).trans q36
              have q37 : w41 37 = some (kl_aI G 5 stb) := (fr43 _ (by decide)).trans q37
              have q38 : w41 38 = some (kl_aI G 5 ((fun t => nI (sco t)))) := (fr43 _ (by decide)).trans q38
              have q39 : w41 39 = some (kl_aI G 5 ctb) := (fr43 _ (by decide)).trans q39
              have q40 : w41 40 = some (kl_aI G 5 ((fun t => nI (cln t)))) := (fr43 _ (by decide)).trans q40
              have q41 : w41 41 = some (kl_aI G 50 ((fun t => nI (cw t)))) := (fr43 _ (by decide)).trans q41
              have f39 : w41 43 = some (kl_aI G 12 p9) := (fr43 _ (by decide)).trans f39
              have frm : ∀ j : Nat, j ≠ 26 → j ≠ 28 → j ≠ 29 → j ≠ 30 → j ≠ 31 → j ≠ 32 → j ≠ 43 → w41 j = w j := fun j k0 k1 k2 k3 k4 k5 k6 => (fr43 j k0).trans (frm j k0 k1 k2 k3 k4 k5 k6)
              refine lv_aload_n hx hb dX5_update_142 rfl (lv_at hl 3 rfl) ?_
              refine kl_get (C := RX5) (T := TX5) (N := 31) (ci := 5) hx hb hts hinX5 hown hK hP f42 rfl 0 (by decide) (hts (.fieldLink RX5 71 "KinLedgerModel" "code" "I") (by decide +kernel)) (fun _ h9 => h9) rfl dX5_update_143 ?_
              refine kl_z_le (tgt := 153) hx hb (by omega) dX5_update_146 (by decide) (fun c146 => ?_) (fun c146 => absurd c146 (by omega))
              refine lv_iload hx hb dX5_update_153 (lv_at hl 1 rfl) ?_
              exact kl_iret hx hb hr hlocks hP (Or.inr (Or.inr (Or.inr (Or.inl (⟨hok, hok2, p15, q, hpn, by omega, rfl, hpt, hv14.2, (fun z => c88 z.symm), sO, sD, (-1), 0, _, hsO, hsD, Or.inl ⟨by omega, rfl, rfl⟩, Or.inl ⟨rfl, rfl⟩, rfl, hsw, ⟨_, _, f42⟩, f37, f38, ⟨_, _, _, _, f26, f27, f28, f39⟩, frm⟩))))) dX5_update_155
            · have q27 : w33 27 = some (kl_aI G 4 ((fun t => nI (cn t)))) := (fr40 _ (by decide) (by decide) (by decide) (by decide)).trans q27
              have f26 : w33 30 = some (kl_aI G 24 sO) := (fr40 _ (by decide) (by decide) (by decide) (by decide)).trans f26
              have f27 : w33 31 = some (kl_aI G 96 sD) := (fr40 _ (by decide) (by decide) (by decide) (by decide)).trans f27
              have f28 : w33 32 = some (kl_aZ G 24 sG) := (fr40 _ (by decide) (by decide) (by decide) (by decide)).trans f28
              have q33 : w33 33 = some (kl_aI G 7 lch) := (fr40 _ (by decide) (by decide) (by decide) (by decide)).trans q33
              have q34 : w33 34 = some (kl_aI G 7 ((fun t => nI (lco t)))) := (fr40 _ (by decide) (by decide) (by decide) (by decide)).trans q34
              have q35 : w33 35 = some (kl_aI G 7 lpa) := (fr40 _ (by decide) (by decide) (by decide) (by decide)).trans q35
              have q36 : w33 36 = some (kl_aI G 7 lwy) := (fr40 _ (by decide) (by decide) (by decide) (by decide)).trans q36
              have q37 : w33 37 = some (kl_aI G 5 stb) := (fr40 _ (by decide) (by decide) (by decide) (by decide)).trans q37
              have q38 : w33 38 = some (kl_aI G 5 ((fun t => nI (sco t)))) := (fr40 _ (by decide) (by decide) (by decide) (by decide)).trans q38
              have q39 : w33 39 = some (kl_aI G 5 ctb) := (fr40 _ (by decide) (by decide) (by decide) (by decide)).trans q39
              have q40 : w33 40 = some (kl_aI G 5 ((fun t => nI (cln t)))) := (fr40 _ (by decide) (by decide) (by decide) (by decide)).trans q40
              have q41 : w33 41 = some (kl_aI G 50 ((fun t => nI (cw t)))) := (fr40 _ (by decide) (by decide) (by decide) (by decide)).trans q41
              have f36 : w33 26 = some (.inr (5, [.int (nI 0), .int y2, .int (nI nT), .ref (B + 27), .int (nI n), .ref (B + 28), .ref (B + 29), .int (nI n), .ref (B + 30), .ref (B + 31), .ref (B + 32), .int (nI nL), .ref (B + 33), .ref (B + 34), .ref (B + 35), .ref (B + 36), .int (nI nS), .ref (B + 37), .ref (B + 38), .int (nI nC), .ref (B + 39), .ref (B + 40), .ref (B + 41), .int (nI nW), .ref (B + 42), .int h9, .ref (B + 43), .int (nI nM), .ref (B + 44), .ref (B + 45), .ref (B + 46)])) := f36
              have f37 : w33 28 = some (kl_aI G 24 O2) := f37
              have f38 : w33 29 = some (kl_aI G 96 D2) := f38
              have f39 : w33 43 = some (kl_aI G 12 p9) := f39
              have frm : ∀ j : Nat, j ≠ 26 → j ≠ 28 → j ≠ 29 → j ≠ 30 → j ≠ 31 → j ≠ 32 → j ≠ 43 → w33 j = w j := fun j k0 k1 k2 k3 k4 k5 k6 => (fr40 j k0 k1 k2 k6).trans (frm j k0 k1 k2 k3 k4 k5 k6)
              refine kl_put (C := RX5) (T := TX5) (N := 31) (ci := 5) (v := .int (nI 3)) (ty := .int) hx hb hts hinX5 tyX5 tyX5_ok nmX5 hown hK hP f36 rfl 0 (by decide) (hts (.fieldLink RX5 71 "KinLedgerModel" "code" "I") (by decide +kernel)) (fun _ h9 => h9) rfl (by decide +kernel) rfl rfl (Nat.le_of_ble_eq_true rfl) dX5_update_139 (fun w44 H locs f45 fr46 hzw44 hP => ?_)
              have f45 : w44 26 = some (.inr (5, [.int (nI 3), .int y2, .int (nI nT), .ref (B + 27), .int (nI n), .ref (B + 28), .ref (B + 29), .int (nI n), .ref (B + 30), .ref (B + 31), .ref (B + 32), .int (nI nL), .ref (B + 33), .ref (B + 34), .ref (B + 35), .ref (B + 36), .int (nI nS), .ref (B + 37), .ref (B + 38), .int (nI nC), .ref (B + 39), .ref (B + 40), .ref (B + 41), .int (nI nW), .ref (B + 42), .int h9, .ref (B + 43), .int (nI nM), .ref (B + 44), .ref (B + 45), .ref (B + 46)])) := f45
              have q27 : w44 27 = some (kl_aI G 4 ((fun t => nI (cn t)))) := (fr46 _ (by decide)).trans q27
              have f37 : w44 28 = some (kl_aI G 24 O2) := (fr46 _ (by decide)).trans f37
              have f38 : w44 29 = some (kl_aI G 96 D2) := (fr46 _ (by decide)).trans f38
              have f26 : w44 30 = some (kl_aI G 24 sO) := (fr46 _ (by decide)).trans f26
              have f27 : w44 31 = some (kl_aI G 96 sD) := (fr46 _ (by decide)).trans f27
              have f28 : w44 32 = some (kl_aZ G 24 sG) := (fr46 _ (by decide)).trans f28
              have q33 : w44 33 = some (kl_aI G 7 lch) := (fr46 _ (by decide)).trans q33
              have q34 : w44 34 = some (kl_aI G 7 ((fun t => nI (lco t)))) := (fr46 _ (by decide)).trans q34
              have q35 : w44 35 = some (kl_aI G 7 lpa) := (fr46 _ (by decide)).trans q35
              have q36 : w44 36 = some (kl_aI G 7 lwy) := (fr46 _ (by decide)).trans q36
              have q37 : w44 37 = some (kl_aI G 5 stb) := (fr46 _ (by decide)).trans q37
              have q38 : w44 38 = some (kl_aI G 5 ((fun t => nI (sco t)))) := (fr46 _ (by decide)).trans q38
              have q39 : w44 39 = some (kl_aI G 5 ctb) := (fr46 _ (by decide)).trans q39
              have q40 : w44 40 = some (kl_aI G 5 ((fun t => nI (cln t)))) := (fr46 _ (by decide)).trans q40
              have q41 : w44 41 = some (kl_aI G 50 ((fun t => nI (cw t)))) := (fr46 _ (by decide)).trans q41
              have f39 : w44 43 = some (kl_aI G 12 p9) := (fr46 _ (by decide)).trans f39
              have frm : ∀ j : Nat, j ≠ 26 → j ≠ 28 → j ≠ 29 → j ≠ 30 → j ≠ 31 → j ≠ 32 → j ≠ 43 → w44 j = w j := fun j k0 k1 k2 k3 k4 k5 k6 => (fr46 j k0).trans (frm j k0 k1 k2 k3 k4 k5 k6)
              refine lv_aload_n hx hb dX5_update_142 rfl (lv_at hl 3 rfl) ?_
              refine kl_get (C := RX5) (T := TX5) (N := 31) (ci := 5) hx hb hts hinX5 hown hK hP f45 rfl 0 (by decide) (hts (.fieldLink RX5 71 "KinLedgerModel" "code" "I") (by decide +kernel)) (fun _ h9 => h9) rfl dX5_update_143 ?_
              refine kl_z_le (tgt := 153) hx hb (by omega) dX5_update_146 (by decide) (fun c146 => absurd c146 (by omega)) (fun c146 => ?_)
              refine lv_iconst (v := nI 0) hx hb dX5_update_149 (by decide) ?_
              refine lv_goto (tgt := 155) hx hb dX5_update_150 (by decide) ?_
              exact kl_iret hx hb hr hlocks hP (Or.inr (Or.inr (Or.inr (Or.inr (⟨hok, hok2, p15, q, hpn, by omega, rfl, hpt, hv14.2, (fun z => c88 z.symm), sO, sD, (-1), 0, _, hsO, hsD, Or.inl ⟨by omega, rfl, rfl⟩, Or.inl ⟨rfl, rfl⟩, y2, hy0, hsw, ⟨_, _, f45⟩, ⟨⟨_, _, f37, f38, fun q hq => (hO2 q hq).trans (hsO q hq), fun q hq => (hD2 q hq).trans (hsD q hq)⟩, ⟨_, _, _, _, f26, f27, f28, f39⟩⟩, frm⟩))))) dX5_update_155
          · refine lv_iload hx hb dX5_update_91 (lv_at hl 0 rfl) ?_
            exact kl_iret hx hb hr hlocks hP (Or.inr (Or.inr (Or.inl (⟨hok, hok2, p15, q, hpn, by omega, rfl, hpt, hv14.2, c88.symm, rfl, f20, ⟨⟨_, _, q28, q29, fun _ _ => rfl, fun _ _ => rfl⟩, ⟨_, _, _, _, q30, q31, q32, q43⟩⟩, frm⟩)))) dX5_update_93
        · refine lv_iconst (v := nI 2) hx hb dX5_update_54 (by decide) ?_
          refine lv_goto (tgt := 59) hx hb dX5_update_55 (by decide) ?_
          refine kl_put (C := RX5) (T := TX5) (N := 31) (ci := 5) (v := .int (nI 2)) (ty := .int) hx hb hts hinX5 tyX5 tyX5_ok nmX5 hown hK hP f9 rfl 0 (by decide) (hts (.fieldLink RX5 71 "KinLedgerModel" "code" "I") (by decide +kernel)) (fun _ h9 => h9) rfl (by decide +kernel) rfl rfl (Nat.le_of_ble_eq_true rfl) dX5_update_59 (fun w47 H locs f48 fr49 hzw47 hP => ?_)
          have f48 : w47 26 = some (.inr (5, [.int (nI 2), .int rs, .int (nI nT), .ref (B + 27), .int (nI n), .ref (B + 28), .ref (B + 29), .int (nI on), .ref (B + 30), .ref (B + 31), .ref (B + 32), .int (nI nL), .ref (B + 33), .ref (B + 34), .ref (B + 35), .ref (B + 36), .int (nI nS), .ref (B + 37), .ref (B + 38), .int (nI nC), .ref (B + 39), .ref (B + 40), .ref (B + 41), .int (nI nW), .ref (B + 42), .int hi, .ref (B + 43), .int (nI nM), .ref (B + 44), .ref (B + 45), .ref (B + 46)])) := f48
          have q27 : w47 27 = some (kl_aI G 4 ((fun t => nI (cn t)))) := (fr49 _ (by decide)).trans q27
          have q28 : w47 28 = some (kl_aI G 24 O) := (fr49 _ (by decide)).trans q28
          have q29 : w47 29 = some (kl_aI G 96 D) := (fr49 _ (by decide)).trans q29
          have q30 : w47 30 = some (kl_aI G 24 oO) := (fr49 _ (by decide)).trans q30
          have q31 : w47 31 = some (kl_aI G 96 oD) := (fr49 _ (by decide)).trans q31
          have q32 : w47 32 = some (kl_aZ G 24 gn) := (fr49 _ (by decide)).trans q32
          have q33 : w47 33 = some (kl_aI G 7 lch) := (fr49 _ (by decide)).trans q33
          have q34 : w47 34 = some (kl_aI G 7 ((fun t => nI (lco t)))) := (fr49 _ (by decide)).trans q34
          have q35 : w47 35 = some (kl_aI G 7 lpa) := (fr49 _ (by decide)).trans q35
          have q36 : w47 36 = some (kl_aI G 7 lwy) := (fr49 _ (by decide)).trans q36
          have q37 : w47 37 = some (kl_aI G 5 stb) := (fr49 _ (by decide)).trans q37
          have q38 : w47 38 = some (kl_aI G 5 ((fun t => nI (sco t)))) := (fr49 _ (by decide)).trans q38
          have q39 : w47 39 = some (kl_aI G 5 ctb) := (fr49 _ (by decide)).trans q39
          have q40 : w47 40 = some (kl_aI G 5 ((fun t => nI (cln t)))) := (fr49 _ (by decide)).trans q40
          have q41 : w47 41 = some (kl_aI G 50 ((fun t => nI (cw t)))) := (fr49 _ (by decide)).trans q41
          have q43 : w47 43 = some (kl_aI G 12 pl) := (fr49 _ (by decide)).trans q43
          have frm : ∀ j : Nat, j ≠ 26 → j ≠ 28 → j ≠ 29 → j ≠ 30 → j ≠ 31 → j ≠ 32 → j ≠ 43 → w47 j = w j := fun j k0 k1 k2 k3 k4 k5 k6 => (fr49 j k0).trans (frm j k0 k1 k2 k3 k4 k5 k6)
          refine lv_aload_n hx hb dX5_update_62 rfl (lv_at hl 1 rfl) ?_
          refine kl_get (C := RX5) (T := TX5) (N := 31) (ci := 5) hx hb hts hinX5 hown hK hP f48 rfl 0 (by decide) (hts (.fieldLink RX5 71 "KinLedgerModel" "code" "I") (by decide +kernel)) (fun _ h9 => h9) rfl dX5_update_63 ?_
          refine kl_z_le (tgt := 71) hx hb (by omega) dX5_update_66 (by decide) (fun c66 => absurd c66 (by omega)) (fun c66 => ?_)
          refine lv_iconst (v := nI 0) hx hb dX5_update_69 (by decide) ?_
          exact kl_iret hx hb hr hlocks hP (Or.inr (Or.inl (⟨hok, Or.inl c51, f48, ⟨⟨_, _, q28, q29, fun _ _ => rfl, fun _ _ => rfl⟩, ⟨_, _, _, _, q30, q31, q32, q43⟩⟩, frm⟩))) dX5_update_70
    · refine lv_iload hx hb dX5_update_14 (lv_at hl 4 rfl) ?_
      refine lv_if_ne (tgt := 23) hx hb dX5_update_16 (by decide) (fun c16 => ?_) (fun c16 => ?_)
      · refine lv_iconst (v := nI 0) hx hb dX5_update_23 (by decide) ?_
        refine kl_put (C := RX5) (T := TX5) (N := 31) (ci := 5) (v := .int (nI 0)) (ty := .int) hx hb hts hinX5 tyX5 tyX5_ok nmX5 hown hK hP q26 rfl 0 (by decide) (hts (.fieldLink RX5 71 "KinLedgerModel" "code" "I") (by decide +kernel)) (fun _ h9 => h9) rfl (by decide +kernel) rfl rfl (Nat.le_of_ble_eq_true rfl) dX5_update_24 (fun w50 H locs f51 fr52 hzw50 hP => ?_)
        have f51 : w50 26 = some (.inr (5, [.int (nI 0), .int rs, .int (nI nT), .ref (B + 27), .int (nI n), .ref (B + 28), .ref (B + 29), .int (nI on), .ref (B + 30), .ref (B + 31), .ref (B + 32), .int (nI nL), .ref (B + 33), .ref (B + 34), .ref (B + 35), .ref (B + 36), .int (nI nS), .ref (B + 37), .ref (B + 38), .int (nI nC), .ref (B + 39), .ref (B + 40), .ref (B + 41), .int (nI nW), .ref (B + 42), .int hi, .ref (B + 43), .int (nI nM), .ref (B + 44), .ref (B + 45), .ref (B + 46)])) := f51
        have q27 : w50 27 = some (kl_aI G 4 ((fun t => nI (cn t)))) := (fr52 _ (by decide)).trans q27
        have q28 : w50 28 = some (kl_aI G 24 O) := (fr52 _ (by decide)).trans q28
        have q29 : w50 29 = some (kl_aI G 96 D) := (fr52 _ (by decide)).trans q29
        have q30 : w50 30 = some (kl_aI G 24 oO) := (fr52 _ (by decide)).trans q30
        have q31 : w50 31 = some (kl_aI G 96 oD) := (fr52 _ (by decide)).trans q31
        have q32 : w50 32 = some (kl_aZ G 24 gn) := (fr52 _ (by decide)).trans q32
        have q33 : w50 33 = some (kl_aI G 7 lch) := (fr52 _ (by decide)).trans q33
        have q34 : w50 34 = some (kl_aI G 7 ((fun t => nI (lco t)))) := (fr52 _ (by decide)).trans q34
        have q35 : w50 35 = some (kl_aI G 7 lpa) := (fr52 _ (by decide)).trans q35
        have q36 : w50 36 = some (kl_aI G 7 lwy) := (fr52 _ (by decide)).trans q36
        have q37 : w50 37 = some (kl_aI G 5 stb) := (fr52 _ (by decide)).trans q37
        have q38 : w50 38 = some (kl_aI G 5 ((fun t => nI (sco t)))) := (fr52 _ (by decide)).trans q38
        have q39 : w50 39 = some (kl_aI G 5 ctb) := (fr52 _ (by decide)).trans q39
        have q40 : w50 40 = some (kl_aI G 5 ((fun t => nI (cln t)))) := (fr52 _ (by decide)).trans q40
        have q41 : w50 41 = some (kl_aI G 50 ((fun t => nI (cw t)))) := (fr52 _ (by decide)).trans q41
        have q43 : w50 43 = some (kl_aI G 12 pl) := (fr52 _ (by decide)).trans q43
        have frm : ∀ j : Nat, j ≠ 26 → j ≠ 28 → j ≠ 29 → j ≠ 30 → j ≠ 31 → j ≠ 32 → j ≠ 43 → w50 j = w j := fun j k0 k1 k2 k3 k4 k5 k6 => (fr52 j k0).trans (frm j k0 k1 k2 k3 k4 k5 k6)
        refine lv_aload_n hx hb dX5_update_27 rfl (lv_at hl 0 rfl) ?_
        refine kl_get (C := RX5) (T := TX5) (N := 31) (ci := 5) hx hb hts hinX5 hown hK hP f51 rfl 0 (by decide) (hts (.fieldLink RX5 71 "KinLedgerModel" "code" "I") (by decide +kernel)) (fun _ h9 => h9) rfl dX5_update_28 ?_
        refine kl_z_le (tgt := 36) hx hb (by omega) dX5_update_31 (by decide) (fun c31 => ?_) (fun c31 => absurd c31 (by omega))
        have hok : (mt_col t c nT cn ∧ (c ≠ 0 ∨ x ≠ 0)) := ⟨c7, Or.inr c16⟩
        obtain ⟨jj, q, hjj, rfl, hq4, rfl⟩ := c7
        have hq5 := hcn4 jj hjj
        have hq0 : q = 0 := (kl_n0 (by omega)).mp c11
        subst hq0
        refine lv_aload_n hx hb dX5_update_36 rfl (lv_at hl 0 rfl) ?_
        refine lv_iload_n hx hb dX5_update_37 rfl (lv_at hl 1 rfl) ?_
        refine lv_iload_n hx hb dX5_update_38 rfl (lv_at hl 2 rfl) ?_
        refine kl_cVi (C := RX5) (i := 26) (As := [.int (nI jj), .int k]) (rest := []) ⟨hx, hb, hml, hown, hts⟩ (c_X5_find l G B _ (nI jj) k f51 q28 q29 (by omega) (kl_nm1 (by omega))) (cwV 2 hts gX5_update_X5_find rfl rfl rfl (by decide +kernel) ⟨Nat.le_of_ble_eq_true rfl, Nat.le_of_ble_eq_true rfl⟩) hK hP f51 rfl rfl hl.1 rfl (Nat.le_of_ble_eq_true rfl) dX5_update_39 ⟨Nat.le_of_ble_eq_true rfl, Nat.le_of_ble_eq_true rfl⟩ (fun r55 w53 H locs q54 hP => ?_)
        obtain ⟨rfl, hv56⟩ := q54
        rcases hv56 with ⟨rfl, hv56⟩ | ⟨p57, hp57, rfl, hv56⟩
        · refine lv_istore (lv' := [(5, .int ((-1))), (0, .ref (B + 26)), (1, .int (nI jj)), (2, .int k), (3, .int (nI 0)), (4, .int x)]) hx hb dX5_update_42 hl (by decide) rfl (fun ls hl => ?_)
          refine lv_aload_n hx hb dX5_update_44 rfl (lv_at hl 1 rfl) ?_
          refine lv_iload hx hb dX5_update_45 (lv_at hl 0 rfl) ?_
          refine lv_if_lt (tgt := 54) hx hb dX5_update_47 (by decide) (fun c47 => ?_) (fun c47 => absurd c47 (by decide))
          refine lv_iconst (v := nI 2) hx hb dX5_update_54 (by decide) ?_
          refine lv_goto (tgt := 59) hx hb dX5_update_55 (by decide) ?_
          refine kl_put (C := RX5) (T := TX5) (N := 31) (ci := 5) (v := .int (nI 2)) (ty := .int) hx hb hts hinX5 tyX5 tyX5_ok nmX5 hown hK hP f51 rfl 0 (by decide) (hts (.fieldLink RX5 71 "KinLedgerModel" "code" "I") (by decide +kernel)) (fun _ h9 => h9) rfl (by decide +kernel) rfl rfl (Nat.le_of_ble_eq_true rfl) dX5_update_59 (fun w58 H locs f59 fr60 hzw58 hP => ?_)
          have f59 : w58 26 = some (.inr (5, [.int (nI 2), .int rs, .int (nI nT), .ref (B + 27), .int (nI n), .ref (B + 28), .ref (B + 29), .int (nI on), .ref (B + 30), .ref (B + 31), .ref (B + 32), .int (nI nL), .ref (B + 33), .ref (B + 34), .ref (B + 35), .ref (B + 36), .int (nI nS), .ref (B + 37), .ref (B + 38), .int (nI nC), .ref (B + 39), .ref (B + 40), .ref (B + 41), .int (nI nW), .ref (B + 42), .int hi, .ref (B + 43), .int (nI nM), .ref (B + 44), .ref (B + 45), .ref (B + 46)])) := f59
          have q27 : w58 27 = some (kl_aI G 4 ((fun t => nI (cn t)))) := (fr60 _ (by decide)).trans q27
          have q28 : w58 28 = some (kl_aI G 24 O) := (fr60 _ (by decide)).trans q28
          have q29 : w58 29 = some (kl_aI G 96 D) := (fr60 _ (by decide)).trans q29
          have q30 : w58 30 = some (kl_aI G 24 oO) := (fr60 _ (by decide)).trans q30
          have q31 : w58 31 = some (kl_aI G 96 oD) := (fr60 _ (by decide)).trans q31
          have q32 : w58 32 = some (kl_aZ G 24 gn) := (fr60 _ (by decide)).trans q32
          have q33 : w58 33 = some (kl_aI G 7 lch) := (fr60 _ (by decide)).trans q33
          have q34 : w58 34 = some (kl_aI G 7 ((fun t => nI (lco t)))) := (fr60 _ (by decide)).trans q34
          have q35 : w58 35 = some (kl_aI G 7 lpa) := (fr60 _ (by decide)).trans q35
          have q36 : w58 36 = some (kl_aI G 7 lwy) := (fr60 _ (by decide)).trans q36
          have q37 : w58 37 = some (kl_aI G 5 stb) := (fr60 _ (by decide)).trans q37
          have q38 : w58 38 = some (kl_aI G 5 ((fun t => nI (sco t)))) := (fr60 _ (by decide)).trans q38
          have q39 : w58 39 = some (kl_aI G 5 ctb) := (fr60 _ (by decide)).trans q39
          have q40 : w58 40 = some (kl_aI G 5 ((fun t => nI (cln t)))) := (fr60 _ (by decide)).trans q40
          have q41 : w58 41 = some (kl_aI G 50 ((fun t => nI (cw t)))) := (fr60 _ (by decide)).trans q41
          have q43 : w58 43 = some (kl_aI G 12 pl) := (fr60 _ (by decide)).trans q43
          have frm : ∀ j : Nat, j ≠ 26 → j ≠ 28 → j ≠ 29 → j ≠ 30 → j ≠ 31 → j ≠ 32 → j ≠ 43 → w58 j = w j := fun j k0 k1 k2 k3 k4 k5 k6 => (fr60 j k0).trans (frm j k0 k1 k2 k3 k4 k5 k6)
          refine lv_aload_n hx hb dX5_update_62 rfl (lv_at hl 1 rfl) ?_
          refine kl_get (C := RX5) (T := TX5) (N := 31) (ci := 5) hx hb hts hinX5 hown hK hP f59 rfl 0 (by decide) (hts (.fieldLink RX5 71 "KinLedgerModel" "code" "I") (by decide +kernel)) (fun _ h9 => h9) rfl dX5_update_63 ?_
          refine kl_z_le (tgt := 71) hx hb (by omega) dX5_update_66 (by decide) (fun c66 => absurd c66 (by omega)) (fun c66 => ?_)
          refine lv_iconst (v := nI 0) hx hb dX5_update_69 (by decide) ?_
          exact kl_iret hx hb hr hlocks hP (Or.inr (Or.inl (⟨hok, Or.inr (mt_has_n hv56), f59, ⟨⟨_, _, q28, q29, fun _ _ => rfl, fun _ _ => rfl⟩, ⟨_, _, _, _, q30, q31, q32, q43⟩⟩, frm⟩))) dX5_update_70
        · obtain ⟨hpn, hpt⟩ := md_ne (kl_nm1 (by omega)) hv56.1
          refine lv_istore (lv' := [(5, .int (nI p57)), (0, .ref (B + 26)), (1, .int (nI jj)), (2, .int k), (3, .int (nI 0)), (4, .int x)]) hx hb dX5_update_42 hl (by decide) rfl (fun ls hl => ?_)
          refine lv_aload_n hx hb dX5_update_44 rfl (lv_at hl 1 rfl) ?_
          refine lv_iload hx hb dX5_update_45 (lv_at hl 0 rfl) ?_
          refine kl_z_lt (tgt := 54) hx hb (by omega) dX5_update_47 (by decide) ?_
          refine lv_iload_n hx hb dX5_update_50 rfl (lv_at hl 3 rfl) ?_
          refine lv_if_ne (tgt := 58) hx hb dX5_update_51 (by decide) (fun c51 => ?_) (fun c51 => ?_)
          · refine lv_iconst (v := nI 0) hx hb dX5_update_58 (by decide) ?_
            refine kl_put (C := RX5) (T := TX5) (N := 31) (ci := 5) (v := .int (nI 0)) (ty := .int) hx hb hts hinX5 tyX5 tyX5_ok nmX5 hown hK hP f51 rfl 0 (by decide) (hts (.fieldLink RX5 71 "KinLedgerModel" "code" "I") (by decide +kernel)) (fun _ h9 => h9) rfl (by decide +kernel) rfl rfl (Nat.le_of_ble_eq_true rfl) dX5_update_59 (fun w61 H locs f62 fr63 hzw61 hP => ?_)
            have f62 : w61 26 = some (.inr (5, [.int (nI 0), .int rs, .int (nI nT), .ref (B + 27), .int (nI n), .ref (B + 28), .ref (B + 29), .int (nI on), .ref (B + 30), .ref (B + 31), .ref (B + 32), .int (nI nL), .ref (B + 33), .ref (B + 34), .ref (B + 35), .ref (B + 36), .int (nI nS), .ref (B + 37), .ref (B + 38), .int (nI nC), .ref (B + 39), .ref (B + 40), .ref (B + 41), .int (nI nW), .ref (B + 42), .int hi, .ref (B + 43), .int (nI nM), .ref (B + 44), .ref (B + 45), .ref (B + 46)])) := f62
            have q27 : w61 27 = some (kl_aI G 4 ((fun t => nI (cn t)))) := (fr63 _ (by decide)).trans q27
            have q28 : w61 28 = some (kl_aI G 24 O) := (fr63 _ (by decide)).trans q28
            have q29 : w61 29 = some (kl_aI G 96 D) := (fr63 _ (by decide)).trans q29
            have q30 : w61 30 = some (kl_aI G 24 oO) := (fr63 _ (by decide)).trans q30
            have q31 : w61 31 = some (kl_aI G 96 oD) := (fr63 _ (by decide)).trans q31
            have q32 : w61 32 = some (kl_aZ G 24 gn) := (fr63 _ (by decide)).trans q32
            have q33 : w61 33 = some (kl_aI G 7 lch) := (fr63 _ (by decide)).trans q33
            have q34 : w61 34 = some (kl_aI G 7 ((fun t => nI (lco t)))) := (fr63 _ (by decide)).trans q34
            have q35 : w61 35 = some (kl_aI G 7 lpa) := (fr63 _ (by decide)).trans q35
            have q36 : w61 36 = some (kl_aI G 7 lwy) := (fr63 _ (by decide)).trans q36
            have q37 : w61 37 = some (kl_aI G 5 stb) := (fr63 _ (by decide)).trans q37
            have q38 : w61 38 = some (kl_aI G 5 ((fun t => nI (sco t)))) := (fr63 _ (by decide)).trans q38
            have q39 : w61 39 = some (kl_aI G 5 ctb) := (fr63 _ (by decide)).trans q39
            have q40 : w61 40 = some (kl_aI G 5 ((fun t => nI (cln t)))) := (fr63 _ (by decide)).trans q40
            have q41 : w61 41 = some (kl_aI G 50 ((fun t => nI (cw t)))) := (fr63 _ (by decide)).trans q41
            have q43 : w61 43 = some (kl_aI G 12 pl) := (fr63 _ (by decide)).trans q43
            have frm : ∀ j : Nat, j ≠ 26 → j ≠ 28 → j ≠ 29 → j ≠ 30 → j ≠ 31 → j ≠ 32 → j ≠ 43 → w61 j = w j := fun j k0 k1 k2 k3 k4 k5 k6 => (fr63 j k0).trans (frm j k0 k1 k2 k3 k4 k5 k6)
            refine lv_aload_n hx hb dX5_update_62 rfl (lv_at hl 1 rfl) ?_
            refine kl_get (C := RX5) (T := TX5) (N := 31) (ci := 5) hx hb hts hinX5 hown hK hP f62 rfl 0 (by decide) (hts (.fieldLink RX5 71 "KinLedgerModel" "code" "I") (by decide +kernel)) (fun _ h9 => h9) rfl dX5_update_63 ?_
            refine kl_z_le (tgt := 71) hx hb (by omega) dX5_update_66 (by decide) (fun c66 => ?_) (fun c66 => absurd c66 (by omega))
            have hok2 : k ≠ 0 := c51
            refine lv_aload_n hx hb dX5_update_71 rfl (lv_at hl 1 rfl) ?_
            refine kl_get (C := RX5) (T := TX5) (N := 31) (ci := 5) hx hb hts hinX5 hown hK hP f62 rfl 6 (by decide) (hts (.fieldLink RX5 16 "KinLedgerModel" "cells" "[I") (by decide +kernel)) (fun _ h9 => h9) rfl dX5_update_72 ?_
            refine lv_iconst (v := nI 4) hx hb dX5_update_75 (by decide) ?_
            refine lv_iload hx hb dX5_update_76 (lv_at hl 0 rfl) ?_
            refine lv_imul hx hb dX5_update_78 ?_
            refine kl_top (z := nI (4 * p57)) (pk_mul _ _) ?_
            refine lv_iload_n hx hb dX5_update_79 rfl (lv_at hl 4 rfl) ?_
            refine lv_iadd hx hb dX5_update_80 ?_
            refine kl_top (z := nI (4 * p57)) (by first | exact nI_add _ _ | (rw [nI_add]; first | rfl | (congr 1; omega))) ?_
            refine kl_iald hx hb hK hP q29 (by omega) (by omega) dX5_update_81 ?_
            refine lv_istore (lv' := [(6, .int (D (4 * p57))), (5, .int (nI p57)), (0, .ref (B + 26)), (1, .int (nI jj)), (2, .int k), (3, .int (nI 0)), (4, .int x)]) hx hb dX5_update_82 hl (by decide) rfl (fun ls hl => ?_)
            refine lv_iload hx hb dX5_update_84 (lv_at hl 0 rfl) ?_
            refine lv_iload hx hb dX5_update_86 (lv_at hl 6 rfl) ?_
            refine lv_icmp_ne (tgt := 94) hx hb dX5_update_88 (by decide) (fun c88 => ?_) (fun c88 => ?_)
            · refine lv_aload_n hx hb dX5_update_94 rfl (lv_at hl 2 rfl) ?_
              refine kl_cVv (C := RX5) (i := 26) (As := []) (rest := []) ⟨hx, hb, hml, hown, hts⟩ (c_X5_remember l G B _ f62 q28 q29 q30 q31 q32 (by omega)) (cwV 0 hts gX5_update_X5_remember rfl rfl rfl (by decide +kernel) ⟨Nat.le_of_ble_eq_true rfl, Nat.le_of_ble_eq_true rfl⟩) hK hP f62 rfl rfl hl.1 rfl (Nat.le_of_ble_eq_true rfl) dX5_update_95 ⟨Nat.le_of_ble_eq_true rfl, Nat.le_of_ble_eq_true rfl⟩ (fun w64 H locs q65 hP => ?_)
              obtain ⟨f67, ⟨sO, sD, sG, f68, f69, f70, hsO, hsD⟩, fr71⟩ := q65
              have q27 : w64 27 = some (kl_aI G 4 ((fun t => nI (cn t)))) := (fr71 _ (by decide) (by decide) (by decide) (by decide)).trans q27
              have q28 : w64 28 = some (kl_aI G 24 O) := (fr71 _ (by decide) (by decide) (by decide) (by decide)).trans q28
              have q29 : w64 29 = some (kl_aI G 96 D) := (fr71 _ (by decide) (by decide) (by decide) (by decide)).trans q29
              have q33 : w64 33 = some (kl_aI G 7 lch) := (fr71 _ (by decide) (by decide) (by decide) (by decide)).trans q33
              have q34 : w64 34 = some (kl_aI G 7 ((fun t => nI (lco t)))) := (fr71 _ (by decide) (by decide) (by decide) (by decide)).trans q34
              have q35 : w64 35 = some (kl_aI G 7 lpa) := (fr71 _ (by decide) (by decide) (by decide) (by decide)).trans q35
              have q36 : w64 36 = some (kl_aI G 7 lwy) := (fr71 _ (by decide) (by decide) (by decide) (by decide)).trans q36
              have q37 : w64 37 = some (kl_aI G 5 stb) := (fr71 _ (by decide) (by decide) (by decide) (by decide)).trans q37
              have q38 : w64 38 = some (kl_aI G 5 ((fun t => nI (sco t)))) := (fr71 _ (by decide) (by decide) (by decide) (by decide)).trans q38
              have q39 : w64 39 = some (kl_aI G 5 ctb) := (fr71 _ (by decide) (by decide) (by decide) (by decide)).trans q39
              have q40 : w64 40 = some (kl_aI G 5 ((fun t => nI (cln t)))) := (fr71 _ (by decide) (by decide) (by decide) (by decide)).trans q40
              have q41 : w64 41 = some (kl_aI G 50 ((fun t => nI (cw t)))) := (fr71 _ (by decide) (by decide) (by decide) (by decide)).trans q41
              have q43 : w64 43 = some (kl_aI G 12 pl) := (fr71 _ (by decide) (by decide) (by decide) (by decide)).trans q43
              have f67 : w64 26 = some (.inr (5, [.int (nI 0), .int rs, .int (nI nT), .ref (B + 27), .int (nI n), .ref (B + 28), .ref (B + 29), .int (nI n), .ref (B + 30), .ref (B + 31), .ref (B + 32), .int (nI nL), .ref (B + 33), .ref (B + 34), .ref (B + 35), .ref (B + 36), .int (nI nS), .ref (B + 37), .ref (B + 38), .int (nI nC), .ref (B + 39), .ref (B + 40), .ref (B + 41), .int (nI nW), .ref (B + 42), .int hi, .ref (B + 43), .int (nI nM), .ref (B + 44), .ref (B + 45), .ref (B + 46)])) := f67
              have f68 : w64 30 = some (kl_aI G 24 sO) := f68
              have f69 : w64 31 = some (kl_aI G 96 sD) := f69
              have f70 : w64 32 = some (kl_aZ G 24 sG) := f70
              have frm : ∀ j : Nat, j ≠ 26 → j ≠ 28 → j ≠ 29 → j ≠ 30 → j ≠ 31 → j ≠ 32 → j ≠ 43 → w64 j = w j := fun j k0 k1 k2 k3 k4 k5 k6 => (fr71 j k0 k3 k4 k5).trans (frm j k0 k1 k2 k3 k4 k5 k6)
              refine lv_iconst (v := nI 0) hx hb dX5_update_98 (by decide) ?_
              refine lv_istore (lv' := [(7, .int (nI 0)), (6, .int (D (4 * p57))), (5, .int (nI p57)), (0, .ref (B + 26)), (1, .int (nI jj)), (2, .int k), (3, .int (nI 0)), (4, .int x)]) hx hb dX5_update_99 hl (by decide) rfl (fun ls hl => ?_)
              refine lv_iload_n hx hb dX5_update_101 rfl (lv_at hl 6 rfl) ?_
              refine kl_z_ne (tgt := 118) hx hb (by omega) dX5_update_102 (by decide) (fun c102 => absurd c102 (by omega)) (fun c102 => ?_)
              refine lv_aload_n hx hb dX5_update_105 rfl (lv_at hl 3 rfl) ?_
              refine lv_iload hx hb dX5_update_106 (lv_at hl 2 rfl) ?_
              refine lv_iload hx hb dX5_update_108 (lv_at hl 7 rfl) ?_
              refine kl_cVi (C := RX5) (i := 26) (As := [.int (nI p57), .int x]) (rest := []) ⟨hx, hb, hml, hown, hts⟩ (c_X5_rename l G B _ p57 x f67 q29 f68 f69 q33 q34 q35 q36 (by omega) (by omega) (by omega) hrl) (cwV 2 hts gX5_update_X5_rename rfl rfl rfl (by decide +kernel) ⟨Nat.le_of_ble_eq_true rfl, Nat.le_of_ble_eq_true rfl⟩) hK hP f67 rfl rfl hl.1 rfl (Nat.le_of_ble_eq_true rfl) dX5_update_110 ⟨Nat.le_of_ble_eq_true rfl, Nat.le_of_ble_eq_true rfl⟩ (fun r74 w72 H locs q73 hP => ?_)
              obtain ⟨d1, kp, y, rfl, f75, hwy, hwr, hkp, fr76⟩ := q73
              have hyl := hwy.le
              have f67 : w72 26 = some (.inr (5, [.int (nI 0), .int rs, .int (nI nT), .ref (B + 27), .int (nI n), .ref (B + 28), .ref (B + 29), .int (nI n), .ref (B + 30), .ref (B + 31), .ref (B + 32), .int (nI nL), .ref (B + 33), .ref (B + 34), .ref (B + 35), .ref (B + 36), .int (nI nS), .ref (B + 37), .ref (B + 38), .int (nI nC), .ref (B + 39), .ref (B + 40), .ref (B + 41), .int (nI nW), .ref (B + 42), .int hi, .ref (B + 43), .int (nI nM), .ref (B + 44), .ref (B + 45), .ref (B + 46)])) := (fr76 _ (by decide)).trans f67
              have q27 : w72 27 = some (kl_aI G 4 ((fun t => nI (cn t)))) := (fr76 _ (by decide)).trans q27
              have q28 : w72 28 = some (kl_aI G 24 O) := (fr76 _ (by decide)).trans q28
              have f68 : w72 30 = some (kl_aI G 24 sO) := (fr76 _ (by decide)).trans f68
              have f69 : w72 31 = some (kl_aI G 96 sD) := (fr76 _ (by decide)).trans f69
              have f70 : w72 32 = some (kl_aZ G 24 sG) := (fr76 _ (by decide)).trans f70
              have q33 : w72 33 = some (kl_aI G 7 lch) := (fr76 _ (by decide)).trans q33
              have q34 : w72 34 = some (kl_aI G 7 ((fun t => nI (lco t)))) := (fr76 _ (by decide)).trans q34
              have q35 : w72 35 = some (kl_aI G 7 lpa) := (fr76 _ (by decide)).trans q35
              have q36 : w72 36 = some (kl_aI G 7 lwy) := (fr76 _ (by decide)).trans q36
              have q37 : w72 37 = some (kl_aI G 5 stb) := (fr76 _ (by decide)).trans q37
              have q38 : w72 38 = some (kl_aI G 5 ((fun t => nI (sco t)))) := (fr76 _ (by decide)).trans q38
              have q39 : w72 39 = some (kl_aI G 5 ctb) := (fr76 _ (by decide)).trans q39
              have q40 : w72 40 = some (kl_aI G 5 ((fun t => nI (cln t)))) := (fr76 _ (by decide)).trans q40
              have q41 : w72 41 = some (kl_aI G 50 ((fun t => nI (cw t)))) := (fr76 _ (by decide)).trans q41
              have q43 : w72 43 = some (kl_aI G 12 pl) := (fr76 _ (by decide)).trans q43
              have frm : ∀ j : Nat, j ≠ 26 → j ≠ 28 → j ≠ 29 → j ≠ 30 → j ≠ 31 → j ≠ 32 → j ≠ 43 → w72 j = w j := fun j k0 k1 k2 k3 k4 k5 k6 => (fr76 j k2).trans (frm j k0 k1 k2 k3 k4 k5 k6)
              refine lv_istore (lv' := [(7, .int (nI y)), (6, .int (D (4 * p57))), (5, .int (nI p57)), (0, .ref (B + 26)), (1, .int (nI jj)), (2, .int k), (3, .int (nI 0)), (4, .int x)]) hx hb dX5_update_113 hl (by decide) rfl (fun ls hl => ?_)
              refine lv_goto (tgt := 131) hx hb dX5_update_115 (by decide) ?_
              refine lv_aload_n hx hb dX5_update_131 rfl (lv_at hl 3 rfl) ?_
              refine lv_aload_n hx hb dX5_update_132 rfl (lv_at hl 3 rfl) ?_
              refine lv_iload hx hb dX5_update_133 (lv_at hl 0 rfl) ?_
              refine lv_iconst (v := nI 3) hx hb dX5_update_135 (by decide) ?_
              refine kl_cVi (C := RX5) (i := 26) (As := [.int (nI y), .int (nI 3)]) (rest := [.ref (B + 26)]) ⟨hx, hb, hml, hown, hts⟩ (c_X5_settle l G B _ ccol y 3 f67 q28 f75 f68 f69 q33 q34 q35 q36 q37 q38 q39 q40 q41 q43 ⟨by omega, by omega, by omega, by omega, by omega⟩ hrp (by omega) (by omega) (by omega)) (cwV 2 hts gX5_update_X5_settle rfl rfl rfl (by decide +kernel) ⟨Nat.le_of_ble_eq_true rfl, Nat.le_of_ble_eq_true rfl⟩) hK hP f67 rfl rfl hl.1 rfl (Nat.le_of_ble_eq_true rfl) dX5_update_136 ⟨Nat.le_of_ble_eq_true rfl, Nat.le_of_ble_eq_true rfl⟩ (fun r79 w77 H locs q78 hP => ?_)
              rcases q78 with ⟨hsw, rfl, ⟨h9, f80⟩, f81, f82, ⟨p9, f83⟩, fr84⟩ | ⟨y2, hy0, hsw, rfl, ⟨h9, f80⟩, ⟨O2, D2, f81, f82, hO2, hD2⟩, ⟨p9, f83⟩, fr84⟩
              · have q27 : w77 27 = some (kl_aI G 4 ((fun t => nI (cn t)))) := (fr84 _ (by decide) (by decide) (by decide) (by decide)).trans q27
                have f68 : w77 30 = some (kl_aI G 24 sO) := (fr84 _ (by decide) (by decide) (by decide) (by decide)).trans f68
                have f69 : w77 31 = some (kl_aI G 96 sD) := (fr84 _ (by decide) (by decide) (by decide) (by decide)).trans f69
                have f70 : w77 32 = some (kl_aZ G 24 sG) := (fr84 _ (by decide) (by decide) (by decide) (by decide)).trans f70
                have q33 : w77 33 = some (kl_aI G 7 lch) := (fr84 _ (by decide) (by decide) (by decide) (by decide)).trans q33
                have q34 : w77 34 = some (kl_aI G 7 ((fun t => nI (lco t)))) := (fr84 _ (by decide) (by decide) (by decide) (by decide)).trans q34
                have q35 : w77 35 = some (kl_aI G 7 lpa) := (fr84 _ (by decide) (by decide) (by decide) (by decide)).trans q35
                have q36 : w77 36 = some (kl_aI G 7 lwy) := (fr84 _ (by decide) (by decide) (by decide) (by decide)).trans q36
                have q37 : w77 37 = some (kl_aI G 5 stb) := (fr84 _ (by decide) (by decide) (by decide) (by decide)).trans q37
                have q38 : w77 38 = some (kl_aI G 5 ((fun t => nI (sco t)))) := (fr84 _ (by decide) (by decide) (by decide) (by decide)).trans q38
                have q39 : w77 39 = some (kl_aI G 5 ctb) := (fr84 _ (by decide) (by decide) (by decide) (by decide)).trans q39
                have q40 : w77 40 = some (kl_aI G 5 ((fun t => nI (cln t)))) := (fr84 _ (by decide) (by decide) (by decide) (by decide)).trans q40
                have q41 : w77 41 = some (kl_aI G 50 ((fun t => nI (cw t)))) := (fr84 _ (by decide) (by decide) (by decide) (by decide)).trans q41
                have f80 : w77 26 = some (.inr (5, [.int (nI 0), .int rs, .int (nI nT), .ref (B + 27), .int (nI n), .ref (B + 28), .ref (B + 29), .int (nI n), .ref (B + 30), .ref (B + 31), .ref (B + 32), .int (nI nL), .ref (B + 33), .ref (B + 34), .ref (B + 35), .ref (B + 36), .int (nI nS), .ref (B + 37), .ref (B + 38), .int (nI nC), .ref (B + 39), .ref (B + 40), .ref (B + 41), .int (nI nW), .ref (B + 42), .int h9, .ref (B + 43), .int (nI nM), .ref (B + 44), .ref (B + 45), .ref (B + 46)])) := f80
                have f81 : w77 28 = some (kl_aI G 24 O) := f81
                have f82 : w77 29 = some (kl_aI G 96 d1) := f82
                have f83 : w77 43 = some (kl_aI G 12 p9) := f83
                have frm : ∀ j : Nat, j ≠ 26 → j ≠ 28 → j ≠ 29 → j ≠ 30 → j ≠ 31 → j ≠ 32 → j ≠ 43 → w77 j = w j := fun j k0 k1 k2 k3 k4 k5 k6 => (fr84 j k0 k1 k2 k6).trans (frm j k0 k1 k2 k3 k4 k5 k6)
                refine kl_put (C := RX5) (T := TX5) (N := 31) (ci := 5) (v := .int (nI 0)) (ty := .int) hx hb hts hinX5 tyX5 tyX5_ok nmX5 hown hK hP f80 rfl 0 (by decide) (hts (.fieldLink RX5 71 "KinLedgerModel" "code" "I") (by decide +kernel)) (fun _ h9 => h9) rfl (by decide +kernel) rfl rfl (Nat.le_of_ble_eq_true rfl) dX5_update_139 (fun w85 H locs f86 fr87 hzw85 hP => ?_)
                have f86 : w85 26 = some (.inr (5, [.int (nI 0), .int rs, .int (nI nT), .ref (B + 27), .int (nI n), .ref (B + 28), .ref (B + 29), .int (nI n), .ref (B + 30), .ref (B + 31), .ref (B + 32), .int (nI nL), .ref (B + 33), .ref (B + 34), .ref (B + 35), .ref (B + 36), .int (nI nS), .ref (B + 37), .ref (B + 38), .int (nI nC), .ref (B + 39), .ref (B + 40), .ref (B + 41), .int (nI nW), .ref (B + 42), .int h9, .ref (B + 43), .int (nI nM), .ref (B + 44), .ref (B + 45), .ref (B + 46)])) := f86
                have q27 : w85 27 = some (kl_aI G 4 ((fun t => nI (cn t)))) := (fr87 _ (by decide)).trans q27
                have f81 : w85 28 = some (kl_aI G 24 O) := (fr87 _ (by decide)).trans f81
                have f82 : w85 29 = some (kl_aI G 96 d1) := (fr87 _ (by decide)).trans f82
                have f68 : w85 30 = some (kl_aI G 24 sO) := (fr87 _ (by decide)).trans f68
                have f69 : w85 31 = some (kl_aI G 96 sD) := (fr87 _ (by decide)).trans f69
                have f70 : w85 32 = some (kl_aZ G 24 sG) := (fr87 _ (by decide)).trans f70
                have q33 : w85 33 = some (kl_aI G 7 lch) := (fr87 _ (by decide)).trans q33
                have q34 : w85 34 = some (kl_aI G 7 ((fun t => nI (lco t)))) := (fr87 _ (by decide)).trans q34
                have q35 : w85 35 = some (kl_aI G 7 lpa) := (fr87 _ (by decide)).trans q35
                have q36 : w85 36 = some (kl_aI G 7 lwy) := (fr87 _ (by decide)).trans q36
                have q37 : w85 37 = some (kl_aI G 5 stb) := (fr87 _ (by decide)).trans q37
                have q38 : w85 38 = some (kl_aI G 5 ((fun t => nI (sco t)))) := (fr87 _ (by decide)).trans q38
                have q39 : w85 39 = some (kl_aI G 5 ctb) := (fr87 _ (by decide)).trans q39
                have q40 : w85 40 = some (kl_aI G 5 ((fun t => nI (cln t)))) := (fr87 _ (by decide)).trans q40
                have q41 : w85 41 = some (kl_aI G 50 ((fun t => nI (cw t)))) := (fr87 _ (by decide)).trans q41
                have f83 : w85 43 = some (kl_aI G 12 p9) := (fr87 _ (by decide)).trans f83
                have frm : ∀ j : Nat, j ≠ 26 → j ≠ 28 → j ≠ 29 → j ≠ 30 → j ≠ 31 → j ≠ 32 → j ≠ 43 → w85 j = w j := fun j k0 k1 k2 k3 k4 k5 k6 => (fr87 j k0).trans (frm j k0 k1 k2 k3 k4 k5 k6)
                refine lv_aload_n hx hb dX5_update_142 rfl (lv_at hl 3 rfl) ?_
                refine kl_get (C := RX5) (T := TX5) (N := 31) (ci := 5) hx hb hts hinX5 hown hK hP f86 rfl 0 (by decide) (hts (.fieldLink RX5 71 "KinLedgerModel" "code" "I") (by decide +kernel)) (fun _ h9 => h9) rfl dX5_update_143 ?_
                refine kl_z_le (tgt := 153) hx hb (by omega) dX5_update_146 (by decide) (fun c146 => ?_) (fun c146 => absurd c146 (by omega))
                refine lv_iload hx hb dX5_update_153 (lv_at hl 1 rfl) ?_
                exact kl_iret hx hb hr hlocks hP (Or.inr (Or.inr (Or.inr (Or.inl (⟨hok, hok2, p57, 0, hpn, by omega, rfl, hpt, hv56.2, (fun z => c88 z.symm), sO, sD, kp, y, _, hsO, hsD, Or.inr ⟨rfl, hwr, hkp⟩, hwy, rfl, hsw, ⟨_, _, f86⟩, f81, f82, ⟨_, _, _, _, f68, f69, f70, f83⟩, frm⟩))))) dX5_update_155
              · have q27 : w77 27 = some (kl_aI G 4 ((fun t => nI (cn t)))) := (fr84 _ (by decide) (by decide) (by decide) (by decide)).trans q27
                have f68 : w77 30 = some (kl_aI G 24 sO) := (fr84 _ (by decide) (by decide) (by decide) (by decide)).trans f68
                have f69 : w77 31 = some (kl_aI G 96 sD) := (fr84 _ (by decide) (by decide) (by decide) (by decide)).trans f69
                have f70 : w77 32 = some (kl_aZ G 24 sG) := (fr84 _ (by decide) (by decide) (by decide) (by decide)).trans f70
                have q33 : w77 33 = some (kl_aI G 7 lch) := (fr84 _ (by decide) (by decide) (by decide) (by decide)).trans q33
                have q34 : w77 34 = some (kl_aI G 7 ((fun t => nI (lco t)))) := (fr84 _ (by decide) (by decide) (by decide) (by decide)).trans q34
                have q35 : w77 35 = some (kl_aI G 7 lpa) := (fr84 _ (by decide) (by decide) (by decide) (by decide)).trans q35
                have q36 : w77 36 = some (kl_aI G 7 lwy) := (fr84 _ (by decide) (by decide) (by decide) (by decide)).trans q36
                have q37 : w77 37 = some (kl_aI G 5 stb) := (fr84 _ (by decide) (by decide) (by decide) (by decide)).trans q37
                have q38 : w77 38 = some (kl_aI G 5 ((fun t => nI (sco t)))) := (fr84 _ (by decide) (by decide) (by decide) (by decide)).trans q38
                have q39 : w77 39 = some (kl_aI G 5 ctb) := (fr84 _ (by decide) (by decide) (by decide) (by decide)).trans q39
                have q40 : w77 40 = some (kl_aI G 5 ((fun t => nI (cln t)))) := (fr84 _ (by decide) (by decide) (by decide) (by decide)).trans q40
                have q41 : w77 41 = some (kl_aI G 50 ((fun t => nI (cw t)))) := (fr84 _ (by decide) (by decide) (by decide) (by decide)).trans q41
                have f80 : w77 26 = some (.inr (5, [.int (nI 0), .int y2, .int (nI nT), .ref (B + 27), .int (nI n), .ref (B + 28), .ref (B + 29), .int (nI n), .ref (B + 30), .ref (B + 31), .ref (B + 32), .int (nI nL), .ref (B + 33), .ref (B + 34), .ref (B + 35), .ref (B + 36), .int (nI nS), .ref (B + 37), .ref (B + 38), .int (nI nC), .ref (B + 39), .ref (B + 40), .ref (B + 41), .int (nI nW), .ref (B + 42), .int h9, .ref (B + 43), .int (nI nM), .ref (B + 44), .ref (B + 45), .ref (B + 46)])) := f80
                have f81 : w77 28 = some (kl_aI G 24 O2) := f81
                have f82 : w77 29 = some (kl_aI G 96 D2) := f82
                have f83 : w77 43 = some (kl_aI G 12 p9) := f83
                have frm : ∀ j : Nat, j ≠ 26 → j ≠ 28 → j ≠ 29 → j ≠ 30 → j ≠ 31 → j ≠ 32 → j ≠ 43 → w77 j = w j := fun j k0 k1 k2 k3 k4 k5 k6 => (fr84 j k0 k1 k2 k6).trans (frm j k0 k1 k2 k3 k4 k5 k6)
                refine kl_put (C := RX5) (T := TX5) (N := 31) (ci := 5) (v := .int (nI 3)) (ty := .int) hx hb hts hinX5 tyX5 tyX5_ok nmX5 hown hK hP f80 rfl 0 (by decide) (hts (.fieldLink RX5 71 "KinLedgerModel" "code" "I") (by decide +kernel)) (fun _ h9 => h9) rfl (by decide +kernel) rfl rfl (Nat.le_of_ble_eq_true rfl) dX5_update_139 (fun w88 H locs f89 fr90 hzw88 hP => ?_)
                have f89 : w88 26 = some (.inr (5, [.int (nI 3), .int y2, .int (nI nT), .ref (B + 27), .int (nI n), .ref (B + 28), .ref (B + 29), .int (nI n), .ref (B + 30), .ref (B + 31), .ref (B + 32), .int (nI nL), .ref (B + 33), .ref (B + 34), .ref (B + 35), .ref (B + 36), .int (nI nS), .ref (B + 37), .ref (B + 38), .int (nI nC), .ref (B + 39), .ref (B + 40), .ref (B + 41), .int (nI nW), .ref (B + 42), .int h9, .ref (B + 43), .int (nI nM), .ref (B + 44), .ref (B + 45), .ref (B + 46)])) := f89
                have q27 : w88 27 = some (kl_aI G 4 ((fun t => nI (cn t)))) := (fr90 _ (by decide)).trans q27
                have f81 : w88 28 = some (kl_aI G 24 O2) := (fr90 _ (by decide)).trans f81
                have f82 : w88 29 = some (kl_aI G 96 D2) := (fr90 _ (by decide)).trans f82
                have f68 : w88 30 = some (kl_aI G 24 sO) := (fr90 _ (by decide)).trans f68
                have f69 : w88 31 = some (kl_aI G 96 sD) := (fr90 _ (by decide)).trans f69
                have f70 : w88 32 = some (kl_aZ G 24 sG) := (fr90 _ (by decide)).trans f70
                have q33 : w88 33 = some (kl_aI G 7 lch) := (fr90 _ (by decide)).trans q33
                have q34 : w88 34 = some (kl_aI G 7 ((fun t => nI (lco t)))) := (fr90 _ (by decide)).trans q34
                have q35 : w88 35 = some (kl_aI G 7 lpa) := (fr90 _ (by decide)).trans q35
                have q36 : w88 36 = some (kl_aI G 7 lwy) := (fr90 _ (by decide)).trans q36
                have q37 : w88 37 = some (kl_aI G 5 stb) := (fr90 _ (by decide)).trans q37
                have q38 : w88 38 = some (kl_aI G 5 ((fun t => nI (sco t)))) := (fr90 _ (by decide)).trans q38
                have q39 : w88 39 = some (kl_aI G 5 ctb) := (fr90 _ (by decide)).trans q39
                have q40 : w88 40 = some (kl_aI G 5 ((fun t => nI (cln t)))) := (fr90 _ (by decide)).trans q40
                have q41 : w88 41 = some (kl_aI G 50 ((fun t => nI (cw t)))) := (fr90 _ (by decide)).trans q41
                have f83 : w88 43 = some (kl_aI G 12 p9) := (fr90 _ (by decide)).trans f83
                have frm : ∀ j : Nat, j ≠ 26 → j ≠ 28 → j ≠ 29 → j ≠ 30 → j ≠ 31 → j ≠ 32 → j ≠ 43 → w88 j = w j := fun j k0 k1 k2 k3 k4 k5 k6 => (fr90 j k0).trans (frm j k0 k1 k2 k3 k4 k5 k6)
                refine lv_aload_n hx hb dX5_update_142 rfl (lv_at hl 3 rfl) ?_
                refine kl_get (C := RX5) (T := TX5) (N := 31) (ci := 5) hx hb hts hinX5 hown hK hP f89 rfl 0 (by decide) (hts (.fieldLink RX5 71 "KinLedgerModel" "code" "I") (by decide +kernel)) (fun _ h9 => h9) rfl dX5_update_143 ?_
                refine kl_z_le (tgt := 153) hx hb (by omega) dX5_update_146 (by decide) (fun c146 => absurd c146 (by omega)) (fun c146 => ?_)
                refine lv_iconst (v := nI 0) hx hb dX5_update_149 (by decide) ?_
                refine lv_goto (tgt := 155) hx hb dX5_update_150 (by decide) ?_
                exact kl_iret hx hb hr hlocks hP (Or.inr (Or.inr (Or.inr (Or.inr (⟨hok, hok2, p57, 0, hpn, by omega, rfl, hpt, hv56.2, (fun z => c88 z.symm), sO, sD, kp, y, _, hsO, hsD, Or.inr ⟨rfl, hwr, hkp⟩, hwy, y2, hy0, hsw, ⟨_, _, f89⟩, ⟨⟨_, _, f81, f82, fun q hq => (hO2 q hq).trans (hsO q hq), fun q hq => (hD2 q hq).trans (hsD q hq)⟩, ⟨_, _, _, _, f68, f69, f70, f83⟩⟩, frm⟩))))) dX5_update_155
            · refine lv_iload hx hb dX5_update_91 (lv_at hl 0 rfl) ?_
              exact kl_iret hx hb hr hlocks hP (Or.inr (Or.inr (Or.inl (⟨hok, hok2, p57, 0, hpn, by omega, rfl, hpt, hv56.2, c88.symm, rfl, f62, ⟨⟨_, _, q28, q29, fun _ _ => rfl, fun _ _ => rfl⟩, ⟨_, _, _, _, q30, q31, q32, q43⟩⟩, frm⟩)))) dX5_update_93
          · refine lv_iconst (v := nI 2) hx hb dX5_update_54 (by decide) ?_
            refine lv_goto (tgt := 59) hx hb dX5_update_55 (by decide) ?_
            refine kl_put (C := RX5) (T := TX5) (N := 31) (ci := 5) (v := .int (nI 2)) (ty := .int) hx hb hts hinX5 tyX5 tyX5_ok nmX5 hown hK hP f51 rfl 0 (by decide) (hts (.fieldLink RX5 71 "KinLedgerModel" "code" "I") (by decide +kernel)) (fun _ h9 => h9) rfl (by decide +kernel) rfl rfl (Nat.le_of_ble_eq_true rfl) dX5_update_59 (fun w91 H locs f92 fr93 hzw91 hP => ?_)
            have f92 : w91 26 = some (.inr (5, [.int (nI 2), .int rs, .int (nI nT), .ref (B + 27), .int (nI n), .ref (B + 28), .ref (B + 29), .int (nI on), .ref (B + 30), .ref (B + 31), .ref (B + 32), .int (nI nL), .ref (B + 33), .ref (B + 34), .ref (B + 35), .ref (B + 36), .int (nI nS), .ref (B + 37), .ref (B + 38), .int (nI nC), .ref (B + 39), .ref (B + 40), .ref (B + 41), .int (nI nW), .ref (B + 42), .int hi, .ref (B + 43), .int (nI nM), .ref (B + 44), .ref (B + 45), .ref (B + 46)])) := f92
            have q27 : w91 27 = some (kl_aI G 4 ((fun t => nI (cn t)))) := (fr93 _ (by decide)).trans q27
            have q28 : w91 28 = some (kl_aI G 24 O) := (fr93 _ (by decide)).trans q28
            have q29 : w91 29 = some (kl_aI G 96 D) := (fr93 _ (by decide)).trans q29
            have q30 : w91 30 = some (kl_aI G 24 oO) := (fr93 _ (by decide)).trans q30
            have q31 : w91 31 = some (kl_aI G 96 oD) := (fr93 _ (by decide)).trans q31
            have q32 : w91 32 = some (kl_aZ G 24 gn) := (fr93 _ (by decide)).trans q32
            have q33 : w91 33 = some (kl_aI G 7 lch) := (fr93 _ (by decide)).trans q33
            have q34 : w91 34 = some (kl_aI G 7 ((fun t => nI (lco t)))) := (fr93 _ (by decide)).trans q34
            have q35 : w91 35 = some (kl_aI G 7 lpa) := (fr93 _ (by decide)).trans q35
            have q36 : w91 36 = some (kl_aI G 7 lwy) := (fr93 _ (by decide)).trans q36
            have q37 : w91 37 = some (kl_aI G 5 stb) := (fr93 _ (by decide)).trans q37
            have q38 : w91 38 = some (kl_aI G 5 ((fun t => nI (sco t)))) := (fr93 _ (by decide)).trans q38
            have q39 : w91 39 = some (kl_aI G 5 ctb) := (fr93 _ (by decide)).trans q39
            have q40 : w91 40 = some (kl_aI G 5 ((fun t => nI (cln t)))) := (fr93 _ (by decide)).trans q40
            have q41 : w91 41 = some (kl_aI G 50 ((fun t => nI (cw t)))) := (fr93 _ (by decide)).trans q41
            have q43 : w91 43 = some (kl_aI G 12 pl) := (fr93 _ (by decide)).trans q43
            have frm : ∀ j : Nat, j ≠ 26 → j ≠ 28 → j ≠ 29 → j ≠ 30 → j ≠ 31 → j ≠ 32 → j ≠ 43 → w91 j = w j := fun j k0 k1 k2 k3 k4 k5 k6 => (fr93 j k0).trans (frm j k0 k1 k2 k3 k4 k5 k6)
            refine lv_aload_n hx hb dX5_update_62 rfl (lv_at hl 1 rfl) ?_
            refine kl_get (C := RX5) (T := TX5) (N := 31) (ci := 5) hx hb hts hinX5 hown hK hP f92 rfl 0 (by decide) (hts (.fieldLink RX5 71 "KinLedgerModel" "code" "I") (by decide +kernel)) (fun _ h9 => h9) rfl dX5_update_63 ?_
            refine kl_z_le (tgt := 71) hx hb (by omega) dX5_update_66 (by decide) (fun c66 => absurd c66 (by omega)) (fun c66 => ?_)
            refine lv_iconst (v := nI 0) hx hb dX5_update_69 (by decide) ?_
            exact kl_iret hx hb hr hlocks hP (Or.inr (Or.inl (⟨hok, Or.inl c51, f92, ⟨⟨_, _, q28, q29, fun _ _ => rfl, fun _ _ => rfl⟩, ⟨_, _, _, _, q30, q31, q32, q43⟩⟩, frm⟩))) dX5_update_70
      · refine lv_iconst (v := nI 1) hx hb dX5_update_19 (by decide) ?_
        refine lv_goto (tgt := 24) hx hb dX5_update_20 (by decide) ?_
        refine kl_put (C := RX5) (T := TX5) (N := 31) (ci := 5) (v := .int (nI 1)) (ty := .int) hx hb hts hinX5 tyX5 tyX5_ok nmX5 hown hK hP q26 rfl 0 (by decide) (hts (.fieldLink RX5 71 "KinLedgerModel" "code" "I") (by decide +kernel)) (fun _ h9 => h9) rfl (by decide +kernel) rfl rfl (Nat.le_of_ble_eq_true rfl) dX5_update_24 (fun w94 H locs f95 fr96 hzw94 hP => ?_)
        have f95 : w94 26 = some (.inr (5, [.int (nI 1), .int rs, .int (nI nT), .ref (B + 27), .int (nI n), .ref (B + 28), .ref (B + 29), .int (nI on), .ref (B + 30), .ref (B + 31), .ref (B + 32), .int (nI nL), .ref (B + 33), .ref (B + 34), .ref (B + 35), .ref (B + 36), .int (nI nS), .ref (B + 37), .ref (B + 38), .int (nI nC), .ref (B + 39), .ref (B + 40), .ref (B + 41), .int (nI nW), .ref (B + 42), .int hi, .ref (B + 43), .int (nI nM), .ref (B + 44), .ref (B + 45), .ref (B + 46)])) := f95
        have q27 : w94 27 = some (kl_aI G 4 ((fun t => nI (cn t)))) := (fr96 _ (by decide)).trans q27
        have q28 : w94 28 = some (kl_aI G 24 O) := (fr96 _ (by decide)).trans q28
        have q29 : w94 29 = some (kl_aI G 96 D) := (fr96 _ (by decide)).trans q29
        have q30 : w94 30 = some (kl_aI G 24 oO) := (fr96 _ (by decide)).trans q30
        have q31 : w94 31 = some (kl_aI G 96 oD) := (fr96 _ (by decide)).trans q31
        have q32 : w94 32 = some (kl_aZ G 24 gn) := (fr96 _ (by decide)).trans q32
        have q33 : w94 33 = some (kl_aI G 7 lch) := (fr96 _ (by decide)).trans q33
        have q34 : w94 34 = some (kl_aI G 7 ((fun t => nI (lco t)))) := (fr96 _ (by decide)).trans q34
        have q35 : w94 35 = some (kl_aI G 7 lpa) := (fr96 _ (by decide)).trans q35
        have q36 : w94 36 = some (kl_aI G 7 lwy) := (fr96 _ (by decide)).trans q36
        have q37 : w94 37 = some (kl_aI G 5 stb) := (fr96 _ (by decide)).trans q37
        have q38 : w94 38 = some (kl_aI G 5 ((fun t => nI (sco t)))) := (fr96 _ (by decide)).trans q38
        have q39 : w94 39 = some (kl_aI G 5 ctb) := (fr96 _ (by decide)).trans q39
        have q40 : w94 40 = some (kl_aI G 5 ((fun t => nI (cln t)))) := (fr96 _ (by decide)).trans q40
        have q41 : w94 41 = some (kl_aI G 50 ((fun t => nI (cw t)))) := (fr96 _ (by decide)).trans q41
        have q43 : w94 43 = some (kl_aI G 12 pl) := (fr96 _ (by decide)).trans q43
        have frm : ∀ j : Nat, j ≠ 26 → j ≠ 28 → j ≠ 29 → j ≠ 30 → j ≠ 31 → j ≠ 32 → j ≠ 43 → w94 j = w j := fun j k0 k1 k2 k3 k4 k5 k6 => (fr96 j k0).trans (frm j k0 k1 k2 k3 k4 k5 k6)
        refine lv_aload_n hx hb dX5_update_27 rfl (lv_at hl 0 rfl) ?_
        refine kl_get (C := RX5) (T := TX5) (N := 31) (ci := 5) hx hb hts hinX5 hown hK hP f95 rfl 0 (by decide) (hts (.fieldLink RX5 71 "KinLedgerModel" "code" "I") (by decide +kernel)) (fun _ h9 => h9) rfl dX5_update_28 ?_
        refine kl_z_le (tgt := 36) hx hb (by omega) dX5_update_31 (by decide) (fun c31 => absurd c31 (by omega)) (fun c31 => ?_)
        refine lv_iconst (v := nI 0) hx hb dX5_update_34 (by decide) ?_
        exact kl_iret hx hb hr hlocks hP (Or.inl (⟨fun z => z.2.elim (fun z => z c11) (fun z => z c16), f95, ⟨⟨_, _, q28, q29, fun _ _ => rfl, fun _ _ => rfl⟩, ⟨_, _, _, _, q30, q31, q32, q43⟩⟩, frm⟩)) dX5_update_35
