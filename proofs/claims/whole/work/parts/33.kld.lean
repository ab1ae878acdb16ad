abbrev rm_X4_init : Room := { frames := 2, cells := 25, slots := 788, locals := 43 }
set_option maxHeartbeats 4000000 in
set_option maxRecDepth 100000 in
theorem c_X4_init (l : Launch) (G : kl_G) (B : Nat) (w : kl_M)  (h0 : w 0 = some (.inr (4, [.null, .int (nI 0), .null, .int (nI 0), .null, .int (nI 0), .null, .int (nI 0), .null, .int (nI 0), .null, .null, .null, .int (nI 0), .null, .int (nI 0)])))  : Met l yX4_init wsX4_init rm_X4_init (kl_Pz G B (B + 1) w [.ref (B + 0)]) (kl_Qz G B 25 (fun w1 => kl_KF G B w1 0 0 0 0 0 0 0 (fun _ => 0) (fun _ => 0) (fun _ => -1) (fun _ => 0) (fun _ => -1) (fun _ => 0) (fun _ _ => -1) (fun _ _ => 0) (fun _ => 0) (fun _ => none) (fun _ => none) (fun _ => none))) 25 788 (kl_fr B) := by
  refine Met.ofW (cc := cX4_init) (maxL := 2) (ret := none) (by decide) rfl ?_
  intro pg e s m args below meth cd s₁ Bd hml hv
  obtain ⟨rfl, hsz, hP0, hK⟩ := hv
  have hx := Bd.exec
  have hb := Bd.bytes
  have hr := Bd.returns
  have hts := atoms_spec (ws := wsX4_init) Bd.pre
  have hown : s.vm.findClass RX4 = some m.cls := findClass_of_methodNamed Bd.named
  have hlocks := Bd.notSynchronized
  have hin2 : meth.name = "<init>" := (name_of_methodNamed Bd.named Bd.method).1
  have hinX2 : ∀ w ∈ u_ws RX2 TX2 2, w ∈ wsX4_init := by decide +kernel
  have hinX4 : ∀ w ∈ u_ws RX4 TX4 16, w ∈ wsX4_init := by decide +kernel
  have hP := kl_S.rf hP0
  have hl := lv_entry ([.ref (B + 0)]) (n := 2) (Nat.le_of_ble_eq_true rfl)
  rw [lg_entry_eq]
  generalize (lg_sl ([.ref (B + 0)]) ++ List.replicate (2 - (lg_sl ([.ref (B + 0)])).length) Slot.unset).toArray = ls at hl ⊢
  have hl : lv_has ls 2 [(0, .ref (B + 0))] := hl
  have hz0 : s.heap.size = B + 1 + 0 := hsz
  refine lv_aload_n hx hb dX4_init_0 rfl (lv_at hl 0 rfl) ?_
  refine W.objInit hx hb hown (hts (.methodLink RX4 1 objectInit) (by decide +kernel)) (hts (.instanceMethod objectInit) (by decide +kernel)) (hts (.code objectInit ⟨#[0xb1]⟩ 1 none) (by decide +kernel)) rfl (by rw [hml]; exact hl.1) rfl dX4_init_1 (Nat.le_of_ble_eq_true rfl) (Nat.le_of_ble_eq_true rfl) ?_
  refine W.eq (g2 := F0 m 4 ls []) rfl ?_
  refine lv_aload_n hx hb dX4_init_4 rfl (lv_at hl 0 rfl) ?_
  refine lv_iconst (v := nI 4) hx hb dX4_init_5 (by decide) ?_
  refine kl_newI hx hb (hts (.arrayClass .int) (by decide +kernel)) hK hP (n := 4) (by omega) (Nat.le_of_ble_eq_true rfl) (by first | exact Nat.le_of_ble_eq_true rfl | (show 0 + 4 ≤ 788; omega)) dX4_init_6 (fun a1 w2 H hq5 f3 fr4 hzw2 hP => ?_)
  have z6 : H.size = B + 1 + 1 := by omega
  obtain rfl : 1 = a1 := by omega
  have f3 : w2 1 = some (kl_aI G 4 ((fun _ => 0))) := f3
  have h0 : w2 0 = some (.inr (4, [.null, .int (nI 0), .null, .int (nI 0), .null, .int (nI 0), .null, .int (nI 0), .null, .int (nI 0), .null, .null, .null, .int (nI 0), .null, .int (nI 0)])) := (fr4 _ (by decide)).trans h0
  refine kl_putF (C := RX4) (T := TX4) (N := 16) (ci := 4) (v := .ref (B + 1)) (ty := (.array .int)) hx hb hts hinX4 tyX4 tyX4_ok nmX4 hown hK hP h0 rfl 0 (by decide) (hts (.fieldLink RX4 9 "KinLedger" "columnCounts" "[I") (by decide +kernel)) (fun _ h9 => h9) rfl hin2 rfl (by decide +kernel) rfl rfl (Nat.le_of_ble_eq_true rfl) dX4_init_8 (fun w7 H locs f8 fr9 hzw7 hP => ?_)
  have z10 : H.size = B + 1 + 1 := by omega
  have f8 : w7 0 = some (.inr (4, [.ref (B + 1), .int (nI 0), .null, .int (nI 0), .null, .int (nI 0), .null, .int (nI 0), .null, .int (nI 0), .null, .null, .null, .int (nI 0), .null, .int (nI 0)])) := f8
  have f3 : w7 1 = some (kl_aI G 4 ((fun _ => 0))) := (fr9 _ (by decide)).trans f3
  refine lv_aload_n hx hb dX4_init_11 rfl (lv_at hl 0 rfl) ?_
  refine lv_iconst (v := nI 0) hx hb dX4_init_12 (by decide) ?_
  refine kl_put (C := RX4) (T := TX4) (N := 16) (ci := 4) (v := .int (nI 0)) (ty := .int) hx hb hts hinX4 tyX4 tyX4_ok nmX4 hown hK hP f8 rfl 1 (by decide) (hts (.fieldLink RX4 13 "KinLedger" "tableCount" "I") (by decide +kernel)) (fun _ h9 => h9) rfl (by decide +kernel) rfl rfl (Nat.le_of_ble_eq_true rfl) dX4_init_13 (fun w11 H locs f12 fr13 hzw11 hP => ?_)
  have z14 : H.size = B + 1 + 1 := by omega
  have f12 : w11 0 = some (.inr (4, [.ref (B + 1), .int (nI 0), .null, .int (nI 0), .null, .int (nI 0), .null, .int (nI 0), .null, .int (nI 0), .null, .null, .null, .int (nI 0), .null, .int (nI 0)])) := f12
  have f3 : w11 1 = some (kl_aI G 4 ((fun _ => 0))) := (fr13 _ (by decide)).trans f3
  refine lv_aload_n hx hb dX4_init_16 rfl (lv_at hl 0 rfl) ?_
  refine lv_bipush (v := nI 6) hx hb dX4_init_17 (by decide) ?_
  refine kl_newq hx hb hown (hts (.classLink RX4 17 RX1) (by decide +kernel)) (va_AO.use (hK.2.2.2.1 RX1 (by decide))) hK hP 3 3 rfl (n := 6) (by omega) (Nat.le_of_ble_eq_true rfl) (Nat.le_of_ble_eq_true rfl) dX4_init_19 (fun a15 w16 H hq19 f17 fr18 hzw16 hP => ?_)
  have z20 : H.size = B + 1 + 2 := by omega
  obtain rfl : 2 = a15 := by omega
  have f17 : w16 2 = some (kl_aR G 3 6 ((fun _ => none))) := f17
  have f12 : w16 0 = some (.inr (4, [.ref (B + 1), .int (nI 0), .null, .int (nI 0), .null, .int (nI 0), .null, .int (nI 0), .null, .int (nI 0), .null, .null, .null, .int (nI 0), .null, .int (nI 0)])) := (fr18 _ (by decide)).trans f12
  have f3 : w16 1 = some (kl_aI G 4 ((fun _ => 0))) := (fr18 _ (by decide)).trans f3
  refine kl_putF (C := RX4) (T := TX4) (N := 16) (ci := 4) (v := .ref (B + 2)) (ty := (.array (.object "KinLedger$Link"))) hx hb hts hinX4 tyX4 tyX4_ok nmX4 hown hK hP f12 rfl 2 (by decide) (hts (.fieldLink RX4 19 "KinLedger" "links" "[LKinLedger$Link;") (by decide +kernel)) (fun _ h9 => h9) rfl hin2 rfl (by decide +kernel) rfl rfl (Nat.le_of_ble_eq_true rfl) dX4_init_22 (fun w21 H locs f22 fr23 hzw21 hP => ?_)
  have z24 : H.size = B + 1 + 2 := by omega
  have f22 : w21 0 = some (.inr (4, [.ref (B + 1), .int (nI 0), .ref (B + 2), .int (nI 0), .null, .int (nI 0), .null, .int (nI 0), .null, .int (nI 0), .null, .null, .null, .int (nI 0), .null, .int (nI 0)])) := f22
  have f3 : w21 1 = some (kl_aI G 4 ((fun _ => 0))) := (fr23 _ (by decide)).trans f3
  have f17 : w21 2 = some (kl_aR G 3 6 ((fun _ => none))) := (fr23 _ (by decide)).trans f17
  refine lv_aload_n hx hb dX4_init_25 rfl (lv_at hl 0 rfl) ?_
  refine lv_iconst (v := nI 0) hx hb dX4_init_26 (by decide) ?_
  refine kl_put (C := RX4) (T := TX4) (N := 16) (ci := 4) (v := .int (nI 0)) (ty := .int) hx hb hts hinX4 tyX4 tyX4_ok nmX4 hown hK hP f22 rfl 3 (by decide) (hts (.fieldLink RX4 23 "KinLedger" "linkCount" "I") (by decide +kernel)) (fun _ h9 => h9) rfl (by decide +kernel) rfl rfl (Nat.le_of_ble_eq_true rfl) dX4_init_27 (fun w25 H locs f26 fr27 hzw25 hP => ?_)
  have z28 : H.size = B + 1 + 2 := by omega
  have f26 : w25 0 = some (.inr (4, [.ref (B + 1), .int (nI 0), .ref (B + 2), .int (nI 0), .null, .int (nI 0), .null, .int (nI 0), .null, .int (nI 0), .null, .null, .null, .int (nI 0), .null, .int (nI 0)])) := f26
  have f3 : w25 1 = some (kl_aI G 4 ((fun _ => 0))) := (fr27 _ (by decide)).trans f3
  have f17 : w25 2 = some (kl_aR G 3 6 ((fun _ => none))) := (fr27 _ (by decide)).trans f17
  refine lv_aload_n hx hb dX4_init_30 rfl (lv_at hl 0 rfl) ?_
  refine lv_iconst (v := nI 4) hx hb dX4_init_31 (by decide) ?_
  refine kl_newq hx hb hown (hts (.classLink RX4 26 RX3) (by decide +kernel)) (va_AO.use (hK.2.2.2.1 RX3 (by decide))) hK hP 4 4 rfl (n := 4) (by omega) (Nat.le_of_ble_eq_true rfl) (Nat.le_of_ble_eq_true rfl) dX4_init_32 (fun a29 w30 H hq33 f31 fr32 hzw30 hP => ?_)
  have z34 : H.size = B + 1 + 3 := by omega
  obtain rfl : 3 = a29 := by omega
  have f31 : w30 3 = some (kl_aR G 4 4 ((fun _ => none))) := f31
  have f26 : w30 0 = some (.inr (4, [.ref (B + 1), .int (nI 0), .ref (B + 2), .int (nI 0), .null, .int (nI 0), .null, .int (nI 0), .null, .int (nI 0), .null, .null, .null, .int (nI 0), .null, .int (nI 0)])) := (fr32 _ (by decide)).trans f26
  have f3 : w30 1 = some (kl_aI G 4 ((fun _ => 0))) := (fr32 _ (by decide)).trans f3
  have f17 : w30 2 = some (kl_aR G 3 6 ((fun _ => none))) := (fr32 _ (by decide)).trans f17
  refine kl_putF (C := RX4) (T := TX4) (N := 16) (ci := 4) (v := .ref (B + 3)) (ty := (.array (.object "KinLedger$Single"))) hx hb hts hinX4 tyX4 tyX4_ok nmX4 hown hK hP f26 rfl 4 (by decide) (hts (.fieldLink RX4 28 "KinLedger" "singles" "[LKinLedger$Single;") (by decide +kernel)) (fun _ h9 => h9) rfl hin2 rfl (by decide +kernel) rfl rfl (Nat.le_of_ble_eq_true rfl) dX4_init_35 (fun w35 H locs f36 fr37 hzw35 hP => ?_)
  have z38 : H.size = B + 1 + 3 := by omega
  have f36 : w35 0 = some (.inr (4, [.ref (B + 1), .int (nI 0), .ref (B + 2), .int (nI 0), .ref (B + 3), .int (nI 0), .null, .int (nI 0), .null, .int (nI 0), .null, .null, .null, .int (nI 0), .null, .int (nI 0)])) := f36
  have f3 : w35 1 = some (kl_aI G 4 ((fun _ => 0))) := (fr37 _ (by decide)).trans f3
  have f17 : w35 2 = some (kl_aR G 3 6 ((fun _ => none))) := (fr37 _ (by decide)).trans f17
  have f31 : w35 3 = some (kl_aR G 4 4 ((fun _ => none))) := (fr37 _ (by decide)).trans f31
  refine lv_aload_n hx hb dX4_init_38 rfl (lv_at hl 0 rfl) ?_
  refine lv_iconst (v := nI 0) hx hb dX4_init_39 (by decide) ?_
  refine kl_put (C := RX4) (T := TX4) (N := 16) (ci := 4) (v := .int (nI 0)) (ty := .int) hx hb hts hinX4 tyX4 tyX4_ok nmX4 hown hK hP f36 rfl 5 (by decide) (hts (.fieldLink RX4 32 "KinLedger" "singleCount" "I") (by decide +kernel)) (fun _ h9 => h9) rfl (by decide +kernel) rfl rfl (Nat.le_of_ble_eq_true rfl) dX4_init_40 (fun w39 H locs f40 fr41 hzw39 hP => ?_)
  have z42 : H.size = B + 1 + 3 := by omega
  have f40 : w39 0 = some (.inr (4, [.ref (B + 1), .int (nI 0), .ref (B + 2), .int (nI 0), .ref (B + 3), .int (nI 0), .null, .int (nI 0), .null, .int (nI 0), .null, .null, .null, .int (nI 0), .null, .int (nI 0)])) := f40
  have f3 : w39 1 = some (kl_aI G 4 ((fun _ => 0))) := (fr41 _ (by decide)).trans f3
  have f17 : w39 2 = some (kl_aR G 3 6 ((fun _ => none))) := (fr41 _ (by decide)).trans f17
  have f31 : w39 3 = some (kl_aR G 4 4 ((fun _ => none))) := (fr41 _ (by decide)).trans f31
  refine lv_aload_n hx hb dX4_init_43 rfl (lv_at hl 0 rfl) ?_
  refine lv_iconst (v := nI 4) hx hb dX4_init_44 (by decide) ?_
  refine kl_newq hx hb hown (hts (.classLink RX4 35 RX0) (by decide +kernel)) (va_AO.use (hK.2.2.2.1 RX0 (by decide))) hK hP 5 5 rfl (n := 4) (by omega) (Nat.le_of_ble_eq_true rfl) (Nat.le_of_ble_eq_true rfl) dX4_init_45 (fun a43 w44 H hq47 f45 fr46 hzw44 hP => ?_)
  have z48 : H.size = B + 1 + 4 := by omega
  obtain rfl : 4 = a43 := by omega
  have f45 : w44 4 = some (kl_aR G 5 4 ((fun _ => none))) := f45
  have f40 : w44 0 = some (.inr (4, [.ref (B + 1), .int (nI 0), .ref (B + 2), .int (nI 0), .ref (B + 3), .int (nI 0), .null, .int (nI 0), .null, .int (nI 0), .null, .null, .null, .int (nI 0), .null, .int (nI 0)])) := (fr46 _ (by decide)).trans f40
  have f3 : w44 1 = some (kl_aI G 4 ((fun _ => 0))) := (fr46 _ (by decide)).trans f3
  have f17 : w44 2 = some (kl_aR G 3 6 ((fun _ => none))) := (fr46 _ (by decide)).trans f17
  have f31 : w44 3 = some (kl_aR G 4 4 ((fun _ => none))) := (fr46 _ (by decide)).trans f31
  refine kl_putF (C := RX4) (T := TX4) (N := 16) (ci := 4) (v := .ref (B + 4)) (ty := (.array (.object "KinLedger$Check"))) hx hb hts hinX4 tyX4 tyX4_ok nmX4 hown hK hP f40 rfl 6 (by decide) (hts (.fieldLink RX4 37 "KinLedger" "checks" "[LKinLedger$Check;") (by decide +kernel)) (fun _ h9 => h9) rfl hin2 rfl (by decide +kernel) rfl rfl (Nat.le_of_ble_eq_true rfl) dX4_init_48 (fun w49 H locs f50 fr51 hzw49 hP => ?_)
  have z52 : H.size = B + 1 + 4 := by omega
  have f50 : w49 0 = some (.inr (4, [.ref (B + 1), .int (nI 0), .ref (B + 2), .int (nI 0), .ref (B + 3), .int (nI 0), .ref (B + 4), .int (nI 0), .null, .int (nI 0), .null, .null, .null, .int (nI 0), .null, .int (nI 0)])) := f50
  have f3 : w49 1 = some (kl_aI G 4 ((fun _ => 0))) := (fr51 _ (by decide)).trans f3
  have f17 : w49 2 = some (kl_aR G 3 6 ((fun _ => none))) := (fr51 _ (by decide)).trans f17
  have f31 : w49 3 = some (kl_aR G 4 4 ((fun _ => none))) := (fr51 _ (by decide)).trans f31
  have f45 : w49 4 = some (kl_aR G 5 4 ((fun _ => none))) := (fr51 _ (by decide)).trans f45
  refine lv_aload_n hx hb dX4_init_51 rfl (lv_at hl 0 rfl) ?_
  refine lv_iconst (v := nI 0) hx hb dX4_init_52 (by decide) ?_
  refine kl_put (C := RX4) (T := TX4) (N := 16) (ci := 4) (v := .int (nI 0)) (ty := .int) hx hb hts hinX4 tyX4 tyX4_ok nmX4 hown hK hP f50 rfl 7 (by decide) (hts (.fieldLink RX4 41 "KinLedger" "checkCount" "I") (by decide +kernel)) (fun _ h9 => h9) rfl (by decide +kernel) rfl rfl (Nat.le_of_ble_eq_true rfl) dX4_init_53 (fun w53 H locs f54 fr55 hzw53 hP => ?_)
  have z56 : H.size = B + 1 + 4 := by omega
  have f54 : w53 0 = some (.inr (4, [.ref (B + 1), .int (nI 0), .ref (B + 2), .int (nI 0), .ref (B + 3), .int (nI 0), .ref (B + 4), .int (nI 0), .null, .int (nI 0), .null, .null, .null, .int (nI 0), .null, .int (nI 0)])) := f54
  have f3 : w53 1 = some (kl_aI G 4 ((fun _ => 0))) := (fr55 _ (by decide)).trans f3
  have f17 : w53 2 = some (kl_aR G 3 6 ((fun _ => none))) := (fr55 _ (by decide)).trans f17
  have f31 : w53 3 = some (kl_aR G 4 4 ((fun _ => none))) := (fr55 _ (by decide)).trans f31
  have f45 : w53 4 = some (kl_aR G 5 4 ((fun _ => none))) := (fr55 _ (by decide)).trans f45
  refine lv_aload_n hx hb dX4_init_56 rfl (lv_at hl 0 rfl) ?_
  refine lv_bipush (v := nI 10) hx hb dX4_init_57 (by decide) ?_
  refine kl_newI hx hb (hts (.arrayClass .int) (by decide +kernel)) hK hP (n := 10) (by omega) (Nat.le_of_ble_eq_true rfl) (by first | exact Nat.le_of_ble_eq_true rfl | (show 0 + 4 + 6 + 4 + 4 + 10 ≤ 788; omega)) dX4_init_59 (fun a57 w58 H hq61 f59 fr60 hzw58 hP => ?_)
  have z62 : H.size = B + 1 + 5 := by omega
  obtain rfl : 5 = a57 := by omega
  have f59 : w58 5 = some (kl_aI G 10 ((fun _ => 0))) := f59
  have f54 : w58 0 = some (.inr (4, [.ref (B + 1), .int (nI 0), .ref (B + 2), .int (nI 0), .ref (B + 3), .int (nI 0), .ref (B + 4), .int (nI 0), .null, .int (nI 0), .null, .null, .null, .int (nI 0), .null, .int (nI 0)])) := (fr60 _ (by decide)).trans f54
  have f3 : w58 1 = some (kl_aI G 4 ((fun _ => 0))) := (fr60 _ (by decide)).trans f3
  have f17 : w58 2 = some (kl_aR G 3 6 ((fun _ => none))) := (fr60 _ (by decide)).trans f17
  have f31 : w58 3 = some (kl_aR G 4 4 ((fun _ => none))) := (fr60 _ (by decide)).trans f31
  have f45 : w58 4 = some (kl_aR G 5 4 ((fun _ => none))) := (fr60 _ (by decide)).trans f45
  refine kl_putF (C := RX4) (T := TX4) (N := 16) (ci := 4) (v := .ref (B + 5)) (ty := (.array .int)) hx hb hts hinX4 tyX4 tyX4_ok nmX4 hown hK hP f54 rfl 8 (by decide) (hts (.fieldLink RX4 44 "KinLedger" "waiting" "[I") (by decide +kernel)) (fun _ h9 => h9) rfl hin2 rfl (by decide +kernel) rfl rfl (Nat.le_of_ble_eq_true rfl) dX4_init_61 (fun w63 H locs f64 fr65 hzw63 hP => ?_)
  have z66 : H.size = B + 1 + 5 := by omega
  have f64 : w63 0 = some (.inr (4, [.ref (B + 1), .int (nI 0), .ref (B + 2), .int (nI 0), .ref (B + 3), .int (nI 0), .ref (B + 4), .int (nI 0), .ref (B + 5), .int (nI 0), .null, .null, .null, .int (nI 0), .null, .int (nI 0)])) := f64
  have f3 : w63 1 = some (kl_aI G 4 ((fun _ => 0))) := (fr65 _ (by decide)).trans f3
  have f17 : w63 2 = some (kl_aR G 3 6 ((fun _ => none))) := (fr65 _ (by decide)).trans f17
  have f31 : w63 3 = some (kl_aR G 4 4 ((fun _ => none))) := (fr65 _ (by decide)).trans f31
  have f45 : w63 4 = some (kl_aR G 5 4 ((fun _ => none))) := (fr65 _ (by decide)).trans f45
  have f59 : w63 5 = some (kl_aI G 10 ((fun _ => 0))) := (fr65 _ (by decide)).trans f59
  refine lv_aload_n hx hb dX4_init_64 rfl (lv_at hl 0 rfl) ?_
  refine lv_iconst (v := nI 0) hx hb dX4_init_65 (by decide) ?_
  refine kl_put (C := RX4) (T := TX4) (N := 16) (ci := 4) (v := .int (nI 0)) (ty := .int) hx hb hts hinX4 tyX4 tyX4_ok nmX4 hown hK hP f64 rfl 9 (by decide) (hts (.fieldLink RX4 47 "KinLedger" "waitingCount" "I") (by decide +kernel)) (fun _ h9 => h9) rfl (by decide +kernel) rfl rfl (Nat.le_of_ble_eq_true rfl) dX4_init_66 (fun w67 H locs f68 fr69 hzw67 hP => ?_)
  have z70 : H.size = B + 1 + 5 := by omega
  have f68 : w67 0 = some (.inr (4, [.ref (B + 1), .int (nI 0), .ref (B + 2), .int (nI 0), .ref (B + 3), .int (nI 0), .ref (B + 4), .int (nI 0), .ref (B + 5), .int (nI 0), .null, .null, .null, .int (nI 0), .null, .int (nI 0)])) := f68
  have f3 : w67 1 = some (kl_aI G 4 ((fun _ => 0))) := (fr69 _ (by decide)).trans f3
  have f17 : w67 2 = some (kl_aR G 3 6 ((fun _ => none))) := (fr69 _ (by decide)).trans f17
  have f31 : w67 3 = some (kl_aR G 4 4 ((fun _ => none))) := (fr69 _ (by decide)).trans f31
  have f45 : w67 4 = some (kl_aR G 5 4 ((fun _ => none))) := (fr69 _ (by decide)).trans f45
  have f59 : w67 5 = some (kl_aI G 10 ((fun _ => 0))) := (fr69 _ (by decide)).trans f59
  refine lv_aload_n hx hb dX4_init_69 rfl (lv_at hl 0 rfl) ?_
  refine kl_new (ci := 2) (fs := [.null, .null]) (C := RX2) (T := TX2) (N := 2) hx hb hts hinX2 tyX2 tyX2_ok hown (hts (.classLink RX4 50 RX2) (by decide +kernel)) (hts (.instantiable RX2 2) (by decide +kernel)) (hts (.initialized RX2) (by decide +kernel)) hK hP rfl (fun j hj => by rcases (show j = 0 ∨ j = 1 by omega) with rfl | rfl <;> rfl) (Nat.le_of_ble_eq_true rfl) (Nat.le_of_ble_eq_true rfl) dX4_init_70 (fun a71 w72 H hq75 f73 fr74 hzw72 hP => ?_)
  have z76 : H.size = B + 1 + 6 := by omega
  obtain rfl : 6 = a71 := by omega
  have f73 : w72 6 = some (.inr (2, [.null, .null])) := f73
  have f68 : w72 0 = some (.inr (4, [.ref (B + 1), .int (nI 0), .ref (B + 2), .int (nI 0), .ref (B + 3), .int (nI 0), .ref (B + 4), .int (nI 0), .ref (B + 5), .int (nI 0), .null, .null, .null, .int (nI 0), .null, .int (nI 0)])) := (fr74 _ (by decide)).trans f68
  have f3 : w72 1 = some (kl_aI G 4 ((fun _ => 0))) := (fr74 _ (by decide)).trans f3
  have f17 : w72 2 = some (kl_aR G 3 6 ((fun _ => none))) := (fr74 _ (by decide)).trans f17
  have f31 : w72 3 = some (kl_aR G 4 4 ((fun _ => none))) := (fr74 _ (by decide)).trans f31
  have f45 : w72 4 = some (kl_aR G 5 4 ((fun _ => none))) := (fr74 _ (by decide)).trans f45
  have f59 : w72 5 = some (kl_aI G 10 ((fun _ => 0))) := (fr74 _ (by decide)).trans f59
  refine lv_dup hx hb dX4_init_73 rfl ?_
  refine kl_cIz (i := 6) (As := []) (rest := [.ref (B + 6), .ref (B + 0)]) ⟨hx, hb, hml, hown, hts⟩ (c_X2_init l G B _ 6 7 f73 (by decide)) (cwI 0 hts gX4_init_X2_init rfl rfl rfl (hts (.initialized RX2) (by decide +kernel)) (hts (.methodLink RX4 52 yX2_init) (by decide +kernel)) (hts (.instanceMethod yX2_init) (by decide +kernel)) rfl (by decide +kernel) ⟨Nat.le_of_ble_eq_true rfl, Nat.le_of_ble_eq_true rfl⟩) (by first | omega | rfl) hK hP rfl hl.1 rfl (Nat.le_of_ble_eq_true rfl) dX4_init_74 ⟨Nat.le_of_ble_eq_true rfl, Nat.le_of_ble_eq_true rfl⟩ (fun w77 H locs q78 hzw77 hP => ?_)
  have z80 : H.size = B + 1 + 8 := by omega
  obtain ⟨f81, f82, f83, fr84⟩ := q78
  have f68 : w77 0 = some (.inr (4, [.ref (B + 1), .int (nI 0), .ref (B + 2), .int (nI 0), .ref (B + 3), .int (nI 0), .ref (B + 4), .int (nI 0), .ref (B + 5), .int (nI 0), .null, .null, .null, .int (nI 0), .null, .int (nI 0)])) := (fr84 _ (by decide) (by decide) (by decide)).trans f68
  have f3 : w77 1 = some (kl_aI G 4 ((fun _ => 0))) := (fr84 _ (by decide) (by decide) (by decide)).trans f3
  have f17 : w77 2 = some (kl_aR G 3 6 ((fun _ => none))) := (fr84 _ (by decide) (by decide) (by decide)).trans f17
  have f31 : w77 3 = some (kl_aR G 4 4 ((fun _ => none))) := (fr84 _ (by decide) (by decide) (by decide)).trans f31
  have f45 : w77 4 = some (kl_aR G 5 4 ((fun _ => none))) := (fr84 _ (by decide) (by decide) (by decide)).trans f45
  have f59 : w77 5 = some (kl_aI G 10 ((fun _ => 0))) := (fr84 _ (by decide) (by decide) (by decide)).trans f59
  have f81 : w77 6 = some (.inr (2, [.ref (B + 7), .ref (B + 8)])) := f81
  have f82 : w77 7 = some (kl_aI G 24 ((fun _ => (-1)))) := f82
  have f83 : w77 8 = some (kl_aI G 96 ((fun _ => 0))) := f83
  refine kl_putF (C := RX4) (T := TX4) (N := 16) (ci := 4) (v := .ref (B + 6)) (ty := (.object "KinLedger$Rows")) hx hb hts hinX4 tyX4 tyX4_ok nmX4 hown hK hP f68 rfl 10 (by decide) (hts (.fieldLink RX4 53 "KinLedger" "rows" "LKinLedger$Rows;") (by decide +kernel)) (fun _ h9 => h9) rfl hin2 rfl (by decide +kernel) rfl rfl (Nat.le_of_ble_eq_true rfl) dX4_init_77 (fun w85 H locs f86 fr87 hzw85 hP => ?_)
  have z88 : H.size = B + 1 + 8 := by omega
  have f86 : w85 0 = some (.inr (4, [.ref (B + 1), .int (nI 0), .ref (B + 2), .int (nI 0), .ref (B + 3), .int (nI 0), .ref (B + 4), .int (nI 0), .ref (B + 5), .int (nI 0), .ref (B + 6), .null, .null, .int (nI 0), .null, .int (nI 0)])) := f86
  have f3 : w85 1 = some (kl_aI G 4 ((fun _ => 0))) := (fr87 _ (by decide)).trans f3
  have f17 : w85 2 = some (kl_aR G 3 6 ((fun _ => none))) := (fr87 _ (by decide)).trans f17
  have f31 : w85 3 = some (kl_aR G 4 4 ((fun _ => none))) := (fr87 _ (by decide)).trans f31
  have f45 : w85 4 = some (kl_aR G 5 4 ((fun _ => none))) := (fr87 _ (by decide)).trans f45
  have f59 : w85 5 = some (kl_aI G 10 ((fun _ => 0))) := (fr87 _ (by decide)).trans f59
  have f81 : w85 6 = some (.inr (2, [.ref (B + 7), .ref (B + 8)])) := (fr87 _ (by decide)).trans f81
  have f82 : w85 7 = some (kl_aI G 24 ((fun _ => (-1)))) := (fr87 _ (by decide)).trans f82
  have f83 : w85 8 = some (kl_aI G 96 ((fun _ => 0))) := (fr87 _ (by decide)).trans f83
  refine lv_aload_n hx hb dX4_init_80 rfl (lv_at hl 0 rfl) ?_
  refine kl_new (ci := 2) (fs := [.null, .null]) (C := RX2) (T := TX2) (N := 2) hx hb hts hinX2 tyX2 tyX2_ok hown (hts (.classLink RX4 50 RX2) (by decide +kernel)) (hts (.instantiable RX2 2) (by decide +kernel)) (hts (.initialized RX2) (by decide +kernel)) hK hP rfl (fun j hj => by rcases (show j = 0 ∨ j = 1 by omega) with rfl | rfl <;> rfl) (Nat.le_of_ble_eq_true rfl) (Nat.le_of_ble_eq_true rfl) dX4_init_81 (fun a89 w90 H hq93 f91 fr92 hzw90 hP => ?_)
  have z94 : H.size = B + 1 + 9 := by omega
  obtain rfl : 9 = a89 := by omega
  have f91 : w90 9 = some (.inr (2, [.null, .null])) := f91
  have f86 : w90 0 = some (.inr (4, [.ref (B + 1), .int (nI 0), .ref (B + 2), .int (nI 0), .ref (B + 3), .int (nI 0), .ref (B + 4), .int (nI 0), .ref (B + 5), .int (nI 0), .ref (B + 6), .null, .null, .int (nI 0), .null, .int (nI 0)])) := (fr92 _ (by decide)).trans f86
  have f3 : w90 1 = some (kl_aI G 4 ((fun _ => 0))) := (fr92 _ (by decide)).trans f3
  have f17 : w90 2 = some (kl_aR G 3 6 ((fun _ => none))) := (fr92 _ (by decide)).trans f17
  have f31 : w90 3 = some (kl_aR G 4 4 ((fun _ => none))) := (fr92 _ (by decide)).trans f31
  have f45 : w90 4 = some (kl_aR G 5 4 ((fun _ => none))) := (fr92 _ (by decide)).trans f45
  have f59 : w90 5 = some (kl_aI G 10 ((fun _ => 0))) := (fr92 _ (by decide)).trans f59
  have f81 : w90 6 = some (.inr (2, [.ref (B + 7), .ref (B + 8)])) := (fr92 _ (by decide)).trans f81
  have f82 : w90 7 = some (kl_aI G 24 ((fun _ => (-1)))) := (fr92 _ (by decide)).trans f82
  have f83 : w90 8 = some (kl_aI G 96 ((fun _ => 0))) := (fr92 _ (by decide)).trans f83
  refine lv_dup hx hb dX4_init_84 rfl ?_
  refine kl_cIz (i := 9) (As := []) (rest := [.ref (B + 9), .ref (B + 0)]) ⟨hx, hb, hml, hown, hts⟩ (c_X2_init l G B _ 9 10 f91 (by decide)) (cwI 0 hts gX4_init_X2_init rfl rfl rfl (hts (.initialized RX2) (by decide +kernel)) (hts (.methodLink RX4 52 yX2_init) (by decide +kernel)) (hts (.instanceMethod yX2_init) (by decide +kernel)) rfl (by decide +kernel) ⟨Nat.le_of_ble_eq_true rfl, Nat.le_of_ble_eq_true rfl⟩) (by first | omega | rfl) hK hP rfl hl.1 rfl (Nat.le_of_ble_eq_true rfl) dX4_init_85 ⟨Nat.le_of_ble_eq_true rfl, Nat.le_of_ble_eq_true rfl⟩ (fun w95 H locs q96 hzw95 hP => ?_)
  have z98 : H.size = B + 1 + 11 := by omega
  obtain ⟨f99, f100, f101, fr102⟩ := q96
  have f86 : w95 0 = some (.inr (4, [.ref (B + 1), .int (nI 0), .ref (B + 2), .int (nI 0), .ref (B + 3), .int (nI 0), .ref (B + 4), .int (nI 0), .ref (B + 5), .int (nI 0), .ref (B + 6), .null, .null, .int (nI 0), .null, .int (nI 0)])) := (fr102 _ (by decide) (by decide) (by decide)).trans f86
  have f3 : w95 1 = some (kl_aI G 4 ((fun _ => 0))) := (fr102 _ (by decide) (by decide) (by decide)).trans f3
  have f17 : w95 2 = some (kl_aR G 3 6 ((fun _ => none))) := (fr102 _ (by decide) (by decide) (by decide)).trans f17
  have f31 : w95 3 = some (kl_aR G 4 4 ((fun _ => none))) := (fr102 _ (by decide) (by decide) (by decide)).trans f31
  have f45 : w95 4 = some (kl_aR G 5 4 ((fun _ => none))) := (fr102 _ (by decide) (by decide) (by decide)).trans f45
  have f59 : w95 5 = some (kl_aI G 10 ((fun _ => 0))) := (fr102 _ (by decide) (by decide) (by decide)).trans f59
  have f81 : w95 6 = some (.inr (2, [.ref (B + 7), .ref (B + 8)])) := (fr102 _ (by decide) (by decide) (by decide)).trans f81
  have f82 : w95 7 = some (kl_aI G 24 ((fun _ => (-1)))) := (fr102 _ (by decide) (by decide) (by decide)).trans f82
  have f83 : w95 8 = some (kl_aI G 96 ((fun _ => 0))) := (fr102 _ (by decide) (by decide) (by decide)).trans f83
  have f99 : w95 9 = some (.inr (2, [.ref (B + 10), .ref (B + 11)])) := f99
  have f100 : w95 10 = some (kl_aI G 24 ((fun _ => (-1)))) := f100
  have f101 : w95 11 = some (kl_aI G 96 ((fun _ => 0))) := f101
  refine kl_putF (C := RX4) (T := TX4) (N := 16) (ci := 4) (v := .ref (B + 9)) (ty := (.object "KinLedger$Rows")) hx hb hts hinX4 tyX4 tyX4_ok nmX4 hown hK hP f86 rfl 11 (by decide) (hts (.fieldLink RX4 57 "KinLedger" "draft" "LKinLedger$Rows;") (by decide +kernel)) (fun _ h9 => h9) rfl hin2 rfl (by decide +kernel) rfl rfl (Nat.le_of_ble_eq_true rfl) dX4_init_88 (fun w103 H locs f104 fr105 hzw103 hP => ?_)
  have z106 : H.size = B + 1 + 11 := by omega
  have f104 : w103 0 = some (.inr (4, [.ref (B + 1), .int (nI 0), .ref (B + 2), .int (nI 0), .ref (B + 3), .int (nI 0), .ref (B + 4), .int (nI 0), .ref (B + 5), .int (nI 0), .ref (B + 6), .ref (B + 9), .null, .int (nI 0), .null, .int (nI 0)])) := f104
  have f3 : w103 1 = some (kl_aI G 4 ((fun _ => 0))) := (fr105 _ (by decide)).trans f3
  have f17 : w103 2 = some (kl_aR G 3 6 ((fun _ => none))) := (fr105 _ (by decide)).trans f17
  have f31 : w103 3 = some (kl_aR G 4 4 ((fun _ => none))) := (fr105 _ (by decide)).trans f31
  have f45 : w103 4 = some (kl_aR G 5 4 ((fun _ => none))) := (fr105 _ (by decide)).trans f45
  have f59 : w103 5 = some (kl_aI G 10 ((fun _ => 0))) := (fr105 _ (by decide)).trans f59
  have f81 : w103 6 = some (.inr (2, [.ref (B + 7), .ref (B + 8)])) := (fr105 _ (by decide)).trans f81
  have f82 : w103 7 = some (kl_aI G 24 ((fun _ => (-1)))) := (fr105 _ (by decide)).trans f82
  have f83 : w103 8 = some (kl_aI G 96 ((fun _ => 0))) := (fr105 _ (by decide)).trans f83
  have f99 : w103 9 = some (.inr (2, [.ref (B + 10), .ref (B + 11)])) := (fr105 _ (by decide)).trans f99
  have f100 : w103 10 = some (kl_aI G 24 ((fun _ => (-1)))) := (fr105 _ (by decide)).trans f100
  have f101 : w103 11 = some (kl_aI G 96 ((fun _ => 0))) := (fr105 _ (by decide)).trans f101
  refine lv_aload_n hx hb dX4_init_91 rfl (lv_at hl 0 rfl) ?_
  refine lv_iconst (v := nI 4) hx hb dX4_init_92 (by decide) ?_
  refine kl_newq hx hb hown (hts (.classLink RX4 50 RX2) (by decide +kernel)) (va_AO.use (hK.2.2.2.1 RX2 (by decide))) hK hP 6 6 rfl (n := 4) (by omega) (Nat.le_of_ble_eq_true rfl) (Nat.le_of_ble_eq_true rfl) dX4_init_93 (fun a107 w108 H hq111 f109 fr110 hzw108 hP => ?_)
  have z112 : H.size = B + 1 + 12 := by omega
  obtain rfl : 12 = a107 := by omega
  have f109 : w108 12 = some (kl_aR G 6 4 ((fun _ => none))) := f109
  have f104 : w108 0 = some (.inr (4, [.ref (B + 1), .int (nI 0), .ref (B + 2), .int (nI 0), .ref (B + 3), .int (nI 0), .ref (B + 4), .int (nI 0), .ref (B + 5), .int (nI 0), .ref (B + 6), .ref (B + 9), .null, .int (nI 0), .null, .int (nI 0)])) := (fr110 _ (by decide)).trans f104
  have f3 : w108 1 = some (kl_aI G 4 ((fun _ => 0))) := (fr110 _ (by decide)).trans f3
  have f17 : w108 2 = some (kl_aR G 3 6 ((fun _ => none))) := (fr110 _ (by decide)).trans f17
  have f31 : w108 3 = some (kl_aR G 4 4 ((fun _ => none))) := (fr110 _ (by decide)).trans f31
  have f45 : w108 4 = some (kl_aR G 5 4 ((fun _ => none))) := (fr110 _ (by decide)).trans f45
  have f59 : w108 5 = some (kl_aI G 10 ((fun _ => 0))) := (fr110 _ (by decide)).trans f59
  have f81 : w108 6 = some (.inr (2, [.ref (B + 7), .ref (B + 8)])) := (fr110 _ (by decide)).trans f81
  have f82 : w108 7 = some (kl_aI G 24 ((fun _ => (-1)))) := (fr110 _ (by decide)).trans f82
  have f83 : w108 8 = some (kl_aI G 96 ((fun _ => 0))) := (fr110 _ (by decide)).trans f83
  have f99 : w108 9 = some (.inr (2, [.ref (B + 10), .ref (B + 11)])) := (fr110 _ (by decide)).trans f99
  have f100 : w108 10 = some (kl_aI G 24 ((fun _ => (-1)))) := (fr110 _ (by decide)).trans f100
  have f101 : w108 11 = some (kl_aI G 96 ((fun _ => 0))) := (fr110 _ (by decide)).trans f101
  refine kl_putF (C := RX4) (T := TX4) (N := 16) (ci := 4) (v := .ref (B + 12)) (ty := (.array (.object "KinLedger$Rows"))) hx hb hts hinX4 tyX4 tyX4_ok nmX4 hown hK hP f104 rfl 12 (by decide) (hts (.fieldLink RX4 60 "KinLedger" "remembered" "[LKinLedger$Rows;") (by decide +kernel)) (fun _ h9 => h9) rfl hin2 rfl (by decide +kernel) rfl rfl (Nat.le_of_ble_eq_true rfl) dX4_init_96 (fun w113 H locs f114 fr115 hzw113 hP => ?_)
  have z116 : H.size = B + 1 + 12 := by omega
  have f114 : w113 0 = some (.inr (4, [.ref (B + 1), .int (nI 0), .ref (B + 2), .int (nI 0), .ref (B + 3), .int (nI 0), .ref (B + 4), .int (nI 0), .ref (B + 5), .int (nI 0), .ref (B + 6), .ref (B + 9), .ref (B + 12), .int (nI 0), .null, .int (nI 0)])) := f114
  have f3 : w113 1 = some (kl_aI G 4 ((fun _ => 0))) := (fr115 _ (by decide)).trans f3
  have f17 : w113 2 = some (kl_aR G 3 6 ((fun _ => none))) := (fr115 _ (by decide)).trans f17
  have f31 : w113 3 = some (kl_aR G 4 4 ((fun _ => none))) := (fr115 _ (by decide)).trans f31
  have f45 : w113 4 = some (kl_aR G 5 4 ((fun _ => none))) := (fr115 _ (by decide)).trans f45
  have f59 : w113 5 = some (kl_aI G 10 ((fun _ => 0))) := (fr115 _ (by decide)).trans f59
  have f81 : w113 6 = some (.inr (2, [.ref (B + 7), .ref (B + 8)])) := (fr115 _ (by decide)).trans f81
  have f82 : w113 7 = some (kl_aI G 24 ((fun _ => (-1)))) := (fr115 _ (by decide)).trans f82
  have f83 : w113 8 = some (kl_aI G 96 ((fun _ => 0))) := (fr115 _ (by decide)).trans f83
  have f99 : w113 9 = some (.inr (2, [.ref (B + 10), .ref (B + 11)])) := (fr115 _ (by decide)).trans f99
  have f100 : w113 10 = some (kl_aI G 24 ((fun _ => (-1)))) := (fr115 _ (by decide)).trans f100
  have f101 : w113 11 = some (kl_aI G 96 ((fun _ => 0))) := (fr115 _ (by decide)).trans f101
  have f109 : w113 12 = some (kl_aR G 6 4 ((fun _ => none))) := (fr115 _ (by decide)).trans f109
  refine lv_aload_n hx hb dX4_init_99 rfl (lv_at hl 0 rfl) ?_
  refine lv_iconst (v := nI 0) hx hb dX4_init_100 (by decide) ?_
  refine kl_put (C := RX4) (T := TX4) (N := 16) (ci := 4) (v := .int (nI 0)) (ty := .int) hx hb hts hinX4 tyX4 tyX4_ok nmX4 hown hK hP f114 rfl 13 (by decide) (hts (.fieldLink RX4 64 "KinLedger" "rememberedCount" "I") (by decide +kernel)) (fun _ h9 => h9) rfl (by decide +kernel) rfl rfl (Nat.le_of_ble_eq_true rfl) dX4_init_101 (fun w117 H locs f118 fr119 hzw117 hP => ?_)
  have z120 : H.size = B + 1 + 12 := by omega
  have f118 : w117 0 = some (.inr (4, [.ref (B + 1), .int (nI 0), .ref (B + 2), .int (nI 0), .ref (B + 3), .int (nI 0), .ref (B + 4), .int (nI 0), .ref (B + 5), .int (nI 0), .ref (B + 6), .ref (B + 9), .ref (B + 12), .int (nI 0), .null, .int (nI 0)])) := f118
  have f3 : w117 1 = some (kl_aI G 4 ((fun _ => 0))) := (fr119 _ (by decide)).trans f3
  have f17 : w117 2 = some (kl_aR G 3 6 ((fun _ => none))) := (fr119 _ (by decide)).trans f17
  have f31 : w117 3 = some (kl_aR G 4 4 ((fun _ => none))) := (fr119 _ (by decide)).trans f31
  have f45 : w117 4 = some (kl_aR G 5 4 ((fun _ => none))) := (fr119 _ (by decide)).trans f45
  have f59 : w117 5 = some (kl_aI G 10 ((fun _ => 0))) := (fr119 _ (by decide)).trans f59
  have f81 : w117 6 = some (.inr (2, [.ref (B + 7), .ref (B + 8)])) := (fr119 _ (by decide)).trans f81
  have f82 : w117 7 = some (kl_aI G 24 ((fun _ => (-1)))) := (fr119 _ (by decide)).trans f82
  have f83 : w117 8 = some (kl_aI G 96 ((fun _ => 0))) := (fr119 _ (by decide)).trans f83
  have f99 : w117 9 = some (.inr (2, [.ref (B + 10), .ref (B + 11)])) := (fr119 _ (by decide)).trans f99
  have f100 : w117 10 = some (kl_aI G 24 ((fun _ => (-1)))) := (fr119 _ (by decide)).trans f100
  have f101 : w117 11 = some (kl_aI G 96 ((fun _ => 0))) := (fr119 _ (by decide)).trans f101
  have f109 : w117 12 = some (kl_aR G 6 4 ((fun _ => none))) := (fr119 _ (by decide)).trans f109
  refine lv_aload_n hx hb dX4_init_104 rfl (lv_at hl 0 rfl) ?_
  refine lv_bipush (v := nI 24) hx hb dX4_init_105 (by decide) ?_
  refine kl_newZ hx hb (hts (.arrayClass .boolean) (by decide +kernel)) hK hP (n := 24) (by omega) (Nat.le_of_ble_eq_true rfl) (by first | exact Nat.le_of_ble_eq_true rfl | (show 0 + 4 + 6 + 4 + 4 + 10 + 2 + 120 + 2 + 120 + 4 + 24 ≤ 788; omega)) dX4_init_107 (fun a121 w122 H hq125 f123 fr124 hzw122 hP => ?_)
  have z126 : H.size = B + 1 + 13 := by omega
  obtain rfl : 13 = a121 := by omega
  have f123 : w122 13 = some (kl_aZ G 24 ((fun _ => 0))) := f123
  have f118 : w122 0 = some (.inr (4, [.ref (B + 1), .int (nI 0), .ref (B + 2), .int (nI 0), .ref (B + 3), .int (nI 0), .ref (B + 4), .int (nI 0), .ref (B + 5), .int (nI 0), .ref (B + 6), .ref (B + 9), .ref (B + 12), .int (nI 0), .null, .int (nI 0)])) := (fr124 _ (by decide)).trans f118
  have f3 : w122 1 = some (kl_aI G 4 ((fun _ => 0))) := (fr124 _ (by decide)).trans f3
  have f17 : w122 2 = some (kl_aR G 3 6 ((fun _ => none))) := (fr124 _ (by decide)).trans f17
  have f31 : w122 3 = some (kl_aR G 4 4 ((fun _ => none))) := (fr124 _ (by decide)).trans f31
  have f45 : w122 4 = some (kl_aR G 5 4 ((fun _ => none))) := (fr124 _ (by decide)).trans f45
  have f59 : w122 5 = some (kl_aI G 10 ((fun _ => 0))) := (fr124 _ (by decide)).trans f59
  have f81 : w122 6 = some (.inr (2, [.ref (B + 7), .ref (B + 8)])) := (fr124 _ (by decide)).trans f81
  have f82 : w122 7 = some (kl_aI G 24 ((fun _ => (-1)))) := (fr124 _ (by decide)).trans f82
  have f83 : w122 8 = some (kl_aI G 96 ((fun _ => 0))) := (fr124 _ (by decide)).trans f83
  have f99 : w122 9 = some (.inr (2, [.ref (B + 10), .ref (B + 11)])) := (fr124 _ (by decide)).trans f99
  have f100 : w122 10 = some (kl_aI G 24 ((fun _ => (-1)))) := (fr124 _ (by decide)).trans f100
  have f101 : w122 11 = some (kl_aI G 96 ((fun _ => 0))) := (fr124 _ (by decide)).trans f101
  have f109 : w122 12 = some (kl_aR G 6 4 ((fun _ => none))) := (fr124 _ (by decide)).trans f109
  refine kl_putF (C := RX4) (T := TX4) (N := 16) (ci := 4) (v := .ref (B + 13)) (ty := (.array .boolean)) hx hb hts hinX4 tyX4 tyX4_ok nmX4 hown hK hP f118 rfl 14 (by decide) (hts (.fieldLink RX4 67 "KinLedger" "going" "[Z") (by decide +kernel)) (fun _ h9 => h9) rfl hin2 rfl (by decide +kernel) rfl rfl (Nat.le_of_ble_eq_true rfl) dX4_init_109 (fun w127 H locs f128 fr129 hzw127 hP => ?_)
  have z130 : H.size = B + 1 + 13 := by omega
  have f128 : w127 0 = some (.inr (4, [.ref (B + 1), .int (nI 0), .ref (B + 2), .int (nI 0), .ref (B + 3), .int (nI 0), .ref (B + 4), .int (nI 0), .ref (B + 5), .int (nI 0), .ref (B + 6), .ref (B + 9), .ref (B + 12), .int (nI 0), .ref (B + 13), .int (nI 0)])) := f128
  have f3 : w127 1 = some (kl_aI G 4 ((fun _ => 0))) := (fr129 _ (by decide)).trans f3
  have f17 : w127 2 = some (kl_aR G 3 6 ((fun _ => none))) := (fr129 _ (by decide)).trans f17
  have f31 : w127 3 = some (kl_aR G 4 4 ((fun _ => none))) := (fr129 _ (by decide)).trans f31
  have f45 : w127 4 = some (kl_aR G 5 4 ((fun _ => none))) := (fr129 _ (by decide)).trans f45
  have f59 : w127 5 = some (kl_aI G 10 ((fun _ => 0))) := (fr129 _ (by decide)).trans f59
  have f81 : w127 6 = some (.inr (2, [.ref (B + 7), .ref (B + 8)])) := (fr129 _ (by decide)).trans f81
  have f82 : w127 7 = some (kl_aI G 24 ((fun _ => (-1)))) := (fr129 _ (by decide)).trans f82
  have f83 : w127 8 = some (kl_aI G 96 ((fun _ => 0))) := (fr129 _ (by decide)).trans f83
  have f99 : w127 9 = some (.inr (2, [.ref (B + 10), .ref (B + 11)])) := (fr129 _ (by decide)).trans f99
  have f100 : w127 10 = some (kl_aI G 24 ((fun _ => (-1)))) := (fr129 _ (by decide)).trans f100
  have f101 : w127 11 = some (kl_aI G 96 ((fun _ => 0))) := (fr129 _ (by decide)).trans f101
  have f109 : w127 12 = some (kl_aR G 6 4 ((fun _ => none))) := (fr129 _ (by decide)).trans f109
  have f123 : w127 13 = some (kl_aZ G 24 ((fun _ => 0))) := (fr129 _ (by decide)).trans f123
  refine lv_aload_n hx hb dX4_init_112 rfl (lv_at hl 0 rfl) ?_
  refine lv_iconst (v := nI 0) hx hb dX4_init_113 (by decide) ?_
  refine kl_put (C := RX4) (T := TX4) (N := 16) (ci := 4) (v := .int (nI 0)) (ty := .int) hx hb hts hinX4 tyX4 tyX4_ok nmX4 hown hK hP f128 rfl 15 (by decide) (hts (.fieldLink RX4 71 "KinLedger" "latestReason" "I") (by decide +kernel)) (fun _ h9 => h9) rfl (by decide +kernel) rfl rfl (Nat.le_of_ble_eq_true rfl) dX4_init_114 (fun w131 H locs f132 fr133 hzw131 hP => ?_)
  have z134 : H.size = B + 1 + 13 := by omega
  have f132 : w131 0 = some (.inr (4, [.ref (B + 1), .int (nI 0), .ref (B + 2), .int (nI 0), .ref (B + 3), .int (nI 0), .ref (B + 4), .int (nI 0), .ref (B + 5), .int (nI 0), .ref (B + 6), .ref (B + 9), .ref (B + 12), .int (nI 0), .ref (B + 13), .int (nI 0)])) := f132
  have f3 : w131 1 = some (kl_aI G 4 ((fun _ => 0))) := (fr133 _ (by decide)).trans f3
  have f17 : w131 2 = some (kl_aR G 3 6 ((fun _ => none))) := (fr133 _ (by decide)).trans f17
  have f31 : w131 3 = some (kl_aR G 4 4 ((fun _ => none))) := (fr133 _ (by decide)).trans f31
  have f45 : w131 4 = some (kl_aR G 5 4 ((fun _ => none))) := (fr133 _ (by decide)).trans f45
  have f59 : w131 5 = some (kl_aI G 10 ((fun _ => 0))) := (fr133 _ (by decide)).trans f59
  have f81 : w131 6 = some (.inr (2, [.ref (B + 7), .ref (B + 8)])) := (fr133 _ (by decide)).trans f81
  have f82 : w131 7 = some (kl_aI G 24 ((fun _ => (-1)))) := (fr133 _ (by decide)).trans f82
  have f83 : w131 8 = some (kl_aI G 96 ((fun _ => 0))) := (fr133 _ (by decide)).trans f83
  have f99 : w131 9 = some (.inr (2, [.ref (B + 10), .ref (B + 11)])) := (fr133 _ (by decide)).trans f99
  have f100 : w131 10 = some (kl_aI G 24 ((fun _ => (-1)))) := (fr133 _ (by decide)).trans f100
  have f101 : w131 11 = some (kl_aI G 96 ((fun _ => 0))) := (fr133 _ (by decide)).trans f101
  have f109 : w131 12 = some (kl_aR G 6 4 ((fun _ => none))) := (fr133 _ (by decide)).trans f109
  have f123 : w131 13 = some (kl_aZ G 24 ((fun _ => 0))) := (fr133 _ (by decide)).trans f123
  refine lv_iconst (v := nI 0) hx hb dX4_init_117 (by decide) ?_
  refine lv_istore_n (lv' := [(1, .int (nI 0)), (0, .ref (B + 0))]) hx hb dX4_init_118 rfl hl (by decide) rfl (fun ls hl => ?_)
  refine lv_iload_n hx hb dX4_init_119 rfl (lv_at hl 0 rfl) ?_
  refine lv_iconst (v := nI 4) hx hb dX4_init_120 (by decide) ?_
  refine kl_ge (tgt := 143) hx hb (by omega) (by omega) dX4_init_121 (by decide) (fun c121 => absurd c121 (by omega)) (fun c121 => ?_)
  refine lv_aload_n hx hb dX4_init_124 rfl (lv_at hl 1 rfl) ?_
  refine kl_get (C := RX4) (T := TX4) (N := 16) (ci := 4) hx hb hts hinX4 hown hK hP f132 rfl 12 (by decide) (hts (.fieldLink RX4 60 "KinLedger" "remembered" "[LKinLedger$Rows;") (by decide +kernel)) (fun _ h9 => h9) rfl dX4_init_125 ?_
  refine lv_iload_n hx hb dX4_init_128 rfl (lv_at hl 0 rfl) ?_
  refine kl_new (ci := 2) (fs := [.null, .null]) (C := RX2) (T := TX2) (N := 2) hx hb hts hinX2 tyX2 tyX2_ok hown (hts (.classLink RX4 50 RX2) (by decide +kernel)) (hts (.instantiable RX2 2) (by decide +kernel)) (hts (.initialized RX2) (by decide +kernel)) hK hP rfl (fun j hj => by rcases (show j = 0 ∨ j = 1 by omega) with rfl | rfl <;> rfl) (Nat.le_of_ble_eq_true rfl) (Nat.le_of_ble_eq_true rfl) dX4_init_129 (fun a135 w136 H hq139 f137 fr138 hzw136 hP => ?_)
  have z140 : H.size = B + 1 + 14 := by omega
  obtain rfl : 14 = a135 := by omega
  have f137 : w136 14 = some (.inr (2, [.null, .null])) := f137
  have f132 : w136 0 = some (.inr (4, [.ref (B + 1), .int (nI 0), .ref (B + 2), .int (nI 0), .ref (B + 3), .int (nI 0), .ref (B + 4), .int (nI 0), .ref (B + 5), .int (nI 0), .ref (B + 6), .ref (B + 9), .ref (B + 12), .int (nI 0), .ref (B + 13), .int (nI 0)])) := (fr138 _ (by decide)).trans f132
  have f3 : w136 1 = some (kl_aI G 4 ((fun _ => 0))) := (fr138 _ (by decide)).trans f3
  have f17 : w136 2 = some (kl_aR G 3 6 ((fun _ => none))) := (fr138 _ (by decide)).trans f17
  have f31 : w136 3 = some (kl_aR G 4 4 ((fun _ => none))) := (fr138 _ (by decide)).trans f31
  have f45 : w136 4 = some (kl_aR G 5 4 ((fun _ => none))) := (fr138 _ (by decide)).trans f45
  have f59 : w136 5 = some (kl_aI G 10 ((fun _ => 0))) := (fr138 _ (by decide)).trans f59
  have f81 : w136 6 = some (.inr (2, [.ref (B + 7), .ref (B + 8)])) := (fr138 _ (by decide)).trans f81
  have f82 : w136 7 = some (kl_aI G 24 ((fun _ => (-1)))) := (fr138 _ (by decide)).trans f82
  have f83 : w136 8 = some (kl_aI G 96 ((fun _ => 0))) := (fr138 _ (by decide)).trans f83
  have f99 : w136 9 = some (.inr (2, [.ref (B + 10), .ref (B + 11)])) := (fr138 _ (by decide)).trans f99
  have f100 : w136 10 = some (kl_aI G 24 ((fun _ => (-1)))) := (fr138 _ (by decide)).trans f100
  have f101 : w136 11 = some (kl_aI G 96 ((fun _ => 0))) := (fr138 _ (by decide)).trans f101
  have f109 : w136 12 = some (kl_aR G 6 4 ((fun _ => none))) := (fr138 _ (by decide)).trans f109
  have f123 : w136 13 = some (kl_aZ G 24 ((fun _ => 0))) := (fr138 _ (by decide)).trans f123
  refine lv_dup hx hb dX4_init_132 rfl ?_
  refine kl_cIz (i := 14) (As := []) (rest := [.ref (B + 14), .int (nI 0), .ref (B + 12)]) ⟨hx, hb, hml, hown, hts⟩ (c_X2_init l G B _ 14 15 f137 (by decide)) (cwI 0 hts gX4_init_X2_init rfl rfl rfl (hts (.initialized RX2) (by decide +kernel)) (hts (.methodLink RX4 52 yX2_init) (by decide +kernel)) (hts (.instanceMethod yX2_init) (by decide +kernel)) rfl (by decide +kernel) ⟨Nat.le_of_ble_eq_true rfl, Nat.le_of_ble_eq_true rfl⟩) (by first | omega | rfl) hK hP rfl hl.1 rfl (Nat.le_of_ble_eq_true rfl) dX4_init_133 ⟨Nat.le_of_ble_eq_true rfl, Nat.le_of_ble_eq_true rfl⟩ (fun w141 H locs q142 hzw141 hP => ?_)
  have z144 : H.size = B + 1 + 16 := by omega
  obtain ⟨f145, f146, f147, fr148⟩ := q142
  have f132 : w141 0 = some (.inr (4, [.ref (B + 1), .int (nI 0), .ref (B + 2), .int (nI 0), .ref (B + 3), .int (nI 0), .ref (B + 4), .int (nI 0), .ref (B + 5), .int (nI 0), .ref (B + 6), .ref (B + 9), .ref (B + 12), .int (nI 0), .ref (B + 13), .int (nI 0)])) := (fr148 _ (by decide) (by decide) (by decide)).trans f132
  have f3 : w141 1 = some (kl_aI G 4 ((fun _ => 0))) := (fr148 _ (by decide) (by decide) (by decide)).trans f3
  have f17 : w141 2 = some (kl_aR G 3 6 ((fun _ => none))) := (fr148 _ (by decide) (by decide) (by decide)).trans f17
  have f31 : w141 3 = some (kl_aR G 4 4 ((fun _ => none))) := (fr148 _ (by decide) (by decide) (by decide)).trans f31
  have f45 : w141 4 = some (kl_aR G 5 4 ((fun _ => none))) := (fr148 _ (by decide) (by decide) (by decide)).trans f45
  have f59 : w141 5 = some (kl_aI G 10 ((fun _ => 0))) := (fr148 _ (by decide) (by decide) (by decide)).trans f59
  have f81 : w141 6 = some (.inr (2, [.ref (B + 7), .ref (B + 8)])) := (fr148 _ (by decide) (by decide) (by decide)).trans f81
  have f82 : w141 7 = some (kl_aI G 24 ((fun _ => (-1)))) := (fr148 _ (by decide) (by decide) (by decide)).trans f82
  have f83 : w141 8 = some (kl_aI G 96 ((fun _ => 0))) := (fr148 _ (by decide) (by decide) (by decide)).trans f83
  have f99 : w141 9 = some (.inr (2, [.ref (B + 10), .ref (B + 11)])) := (fr148 _ (by decide) (by decide) (by decide)).trans f99
  have f100 : w141 10 = some (kl_aI G 24 ((fun _ => (-1)))) := (fr148 _ (by decide) (by decide) (by decide)).trans f100
  have f101 : w141 11 = some (kl_aI G 96 ((fun _ => 0))) := (fr148 _ (by decide) (by decide) (by decide)).trans f101
  have f109 : w141 12 = some (kl_aR G 6 4 ((fun _ => none))) := (fr148 _ (by decide) (by decide) (by decide)).trans f109
  have f123 : w141 13 = some (kl_aZ G 24 ((fun _ => 0))) := (fr148 _ (by decide) (by decide) (by decide)).trans f123
  have f145 : w141 14 = some (.inr (2, [.ref (B + 15), .ref (B + 16)])) := f145
  have f146 : w141 15 = some (kl_aI G 24 ((fun _ => (-1)))) := f146
  have f147 : w141 16 = some (kl_aI G 96 ((fun _ => 0))) := f147
  refine kl_aast hx hb hK hP 6 2 (k0 := 6) (r := (RX2, TX2, 2)) f109 rfl f145 rfl (by omega) (by omega) dX4_init_136 (fun w149 H locs f150 fr151 hzw149 hP => ?_)
  have z152 : H.size = B + 1 + 16 := by omega
  have f132 : w149 0 = some (.inr (4, [.ref (B + 1), .int (nI 0), .ref (B + 2), .int (nI 0), .ref (B + 3), .int (nI 0), .ref (B + 4), .int (nI 0), .ref (B + 5), .int (nI 0), .ref (B + 6), .ref (B + 9), .ref (B + 12), .int (nI 0), .ref (B + 13), .int (nI 0)])) := (fr151 _ (by decide)).trans f132
  have f3 : w149 1 = some (kl_aI G 4 ((fun _ => 0))) := (fr151 _ (by decide)).trans f3
  have f17 : w149 2 = some (kl_aR G 3 6 ((fun _ => none))) := (fr151 _ (by decide)).trans f17
  have f31 : w149 3 = some (kl_aR G 4 4 ((fun _ => none))) := (fr151 _ (by decide)).trans f31
  have f45 : w149 4 = some (kl_aR G 5 4 ((fun _ => none))) := (fr151 _ (by decide)).trans f45
  have f59 : w149 5 = some (kl_aI G 10 ((fun _ => 0))) := (fr151 _ (by decide)).trans f59
  have f81 : w149 6 = some (.inr (2, [.ref (B + 7), .ref (B + 8)])) := (fr151 _ (by decide)).trans f81
  have f82 : w149 7 = some (kl_aI G 24 ((fun _ => (-1)))) := (fr151 _ (by decide)).trans f82
  have f83 : w149 8 = some (kl_aI G 96 ((fun _ => 0))) := (fr151 _ (by decide)).trans f83
  have f99 : w149 9 = some (.inr (2, [.ref (B + 10), .ref (B + 11)])) := (fr151 _ (by decide)).trans f99
  have f100 : w149 10 = some (kl_aI G 24 ((fun _ => (-1)))) := (fr151 _ (by decide)).trans f100
  have f101 : w149 11 = some (kl_aI G 96 ((fun _ => 0))) := (fr151 _ (by decide)).trans f101
  have f123 : w149 13 = some (kl_aZ G 24 ((fun _ => 0))) := (fr151 _ (by decide)).trans f123
  have f145 : w149 14 = some (.inr (2, [.ref (B + 15), .ref (B + 16)])) := (fr151 _ (by decide)).trans f145
  have f146 : w149 15 = some (kl_aI G 24 ((fun _ => (-1)))) := (fr151 _ (by decide)).trans f146
  have f147 : w149 16 = some (kl_aI G 96 ((fun _ => 0))) := (fr151 _ (by decide)).trans f147
  refine lv_iinc (v := nI 1) (lv' := [(1, .int (nI 1)), (0, .ref (B + 0))]) hx hb dX4_init_137 hl (k := 0) rfl (nI_1 _) (by decide) rfl (fun ls hl => ?_)
  refine lv_goto (tgt := 119) hx hb dX4_init_140 (by decide) ?_
  refine lv_iload_n hx hb dX4_init_119 rfl (lv_at hl 0 rfl) ?_
  refine lv_iconst (v := nI 4) hx hb dX4_init_120 (by decide) ?_
  refine kl_ge (tgt := 143) hx hb (by omega) (by omega) dX4_init_121 (by decide) (fun c121 => absurd c121 (by omega)) (fun c121 => ?_)
  refine lv_aload_n hx hb dX4_init_124 rfl (lv_at hl 1 rfl) ?_
  refine kl_get (C := RX4) (T := TX4) (N := 16) (ci := 4) hx hb hts hinX4 hown hK hP f132 rfl 12 (by decide) (hts (.fieldLink RX4 60 "KinLedger" "remembered" "[LKinLedger$Rows;") (by decide +kernel)) (fun _ h9 => h9) rfl dX4_init_125 ?_
  refine lv_iload_n hx hb dX4_init_128 rfl (lv_at hl 0 rfl) ?_
  refine kl_new (ci := 2) (fs := [.null, .null]) (C := RX2) (T := TX2) (N := 2) hx hb hts hinX2 tyX2 tyX2_ok hown (hts (.classLink RX4 50 RX2) (by decide +kernel)) (hts (.instantiable RX2 2) (by decide +kernel)) (hts (.initialized RX2) (by decide +kernel)) hK hP rfl (fun j hj => by rcases (show j = 0 ∨ j = 1 by omega) with rfl | rfl <;> rfl) (Nat.le_of_ble_eq_true rfl) (Nat.le_of_ble_eq_true rfl) dX4_init_129 (fun a153 w154 H hq157 f155 fr156 hzw154 hP => ?_)
  have z158 : H.size = B + 1 + 17 := by omega
  obtain rfl : 17 = a153 := by omega
  have f155 : w154 17 = some (.inr (2, [.null, .null])) := f155
  have f132 : w154 0 = some (.inr (4, [.ref (B + 1), .int (nI 0), .ref (B + 2), .int (nI 0), .ref (B + 3), .int (nI 0), .ref (B + 4), .int (nI 0), .ref (B + 5), .int (nI 0), .ref (B + 6), .ref (B + 9), .ref (B + 12), .int (nI 0), .ref (B + 13), .int (nI 0)])) := (fr156 _ (by decide)).trans f132
  have f3 : w154 1 = some (kl_aI G 4 ((fun _ => 0))) := (fr156 _ (by decide)).trans f3
  have f17 : w154 2 = some (kl_aR G 3 6 ((fun _ => none))) := (fr156 _ (by decide)).trans f17
  have f31 : w154 3 = some (kl_aR G 4 4 ((fun _ => none))) := (fr156 _ (by decide)).trans f31
  have f45 : w154 4 = some (kl_aR G 5 4 ((fun _ => none))) := (fr156 _ (by decide)).trans f45
  have f59 : w154 5 = some (kl_aI G 10 ((fun _ => 0))) := (fr156 _ (by decide)).trans f59
  have f81 : w154 6 = some (.inr (2, [.ref (B + 7), .ref (B + 8)])) := (fr156 _ (by decide)).trans f81
  have f82 : w154 7 = some (kl_aI G 24 ((fun _ => (-1)))) := (fr156 _ (by decide)).trans f82
  have f83 : w154 8 = some (kl_aI G 96 ((fun _ => 0))) := (fr156 _ (by decide)).trans f83
  have f99 : w154 9 = some (.inr (2, [.ref (B + 10), .ref (B + 11)])) := (fr156 _ (by decide)).trans f99
  have f100 : w154 10 = some (kl_aI G 24 ((fun _ => (-1)))) := (fr156 _ (by decide)).trans f100
  have f101 : w154 11 = some (kl_aI G 96 ((fun _ => 0))) := (fr156 _ (by decide)).trans f101
  have f150 : w154 12 = some (kl_aR G 6 4 (va_up ((fun _ => none)) 0 (some (B + 14)))) := (fr156 _ (by decide)).trans f150
  have f123 : w154 13 = some (kl_aZ G 24 ((fun _ => 0))) := (fr156 _ (by decide)).trans f123
  have f145 : w154 14 = some (.inr (2, [.ref (B + 15), .ref (B + 16)])) := (fr156 _ (by decide)).trans f145
  have f146 : w154 15 = some (kl_aI G 24 ((fun _ => (-1)))) := (fr156 _ (by decide)).trans f146
  have f147 : w154 16 = some (kl_aI G 96 ((fun _ => 0))) := (fr156 _ (by decide)).trans f147
  refine lv_dup hx hb dX4_init_132 rfl ?_
  refine kl_cIz (i := 17) (As := []) (rest := [.ref (B + 17), .int (nI 1), .ref (B + 12)]) ⟨hx, hb, hml, hown, hts⟩ (c_X2_init l G B _ 17 18 f155 (by decide)) (cwI 0 hts gX4_init_X2_init rfl rfl rfl (hts (.initialized RX2) (by decide +kernel)) (hts (.methodLink RX4 52 yX2_init) (by decide +kernel)) (hts (.instanceMethod yX2_init) (by decide +kernel)) rfl (by decide +kernel) ⟨Nat.le_of_ble_eq_true rfl, Nat.le_of_ble_eq_true rfl⟩) (by first | omega | rfl) hK hP rfl hl.1 rfl (Nat.le_of_ble_eq_true rfl) dX4_init_133 ⟨Nat.le_of_ble_eq_true rfl, Nat.le_of_ble_eq_true rfl⟩ (fun w159 H locs q160 hzw159 hP => ?_)
  have z162 : H.size = B + 1 + 19 := by omega
  obtain ⟨f163, f164, f165, fr166⟩ := q160
  have f132 : w159 0 = some (.inr (4, [.ref (B + 1), .int (nI 0), .ref (B + 2), .int (nI 0), .ref (B + 3), .int (nI 0), .ref (B + 4), .int (nI 0), .ref (B + 5), .int (nI 0), .ref (B + 6), .ref (B + 9), .ref (B + 12), .int (nI 0), .ref (B + 13), .int (nI 0)])) := (fr166 _ (by decide) (by decide) (by decide)).trans f132
  have f3 : w159 1 = some (kl_aI G 4 ((fun _ => 0))) := (fr166 _ (by decide) (by decide) (by decide)).trans f3
  have f17 : w159 2 = some (kl_aR G 3 6 ((fun _ => none))) := (fr166 _ (by decide) (by decide) (by decide)).trans f17
  have f31 : w159 3 = some (kl_aR G 4 4 ((fun _ => none))) := (fr166 _ (by decide) (by decide) (by decide)).trans f31
  have f45 : w159 4 = some (kl_aR G 5 4 ((fun _ => none))) := (fr166 _ (by decide) (by decide) (by decide)).trans f45
  have f59 : w159 5 = some (kl_aI G 10 ((fun _ => 0))) := (fr166 _ (by decide) (by decide) (by decide)).trans f59
  have f81 : w159 6 = some (.inr (2, [.ref (B + 7), .ref (B + 8)])) := (fr166 _ (by decide) (by decide) (by decide)).trans f81
  have f82 : w159 7 = some (kl_aI G 24 ((fun _ => (-1)))) := (fr166 _ (by decide) (by decide) (by decide)).trans f82
  have f83 : w159 8 = some (kl_aI G 96 ((fun _ => 0))) := (fr166 _ (by decide) (by decide) (by decide)).trans f83
  have f99 : w159 9 = some (.inr (2, [.ref (B + 10), .ref (B + 11)])) := (fr166 _ (by decide) (by decide) (by decide)).trans f99
  have f100 : w159 10 = some (kl_aI G 24 ((fun _ => (-1)))) := (fr166 _ (by decide) (by decide) (by decide)).trans f100
  have f101 : w159 11 = some (kl_aI G 96 ((fun _ => 0))) := (fr166 _ (by decide) (by decide) (by decide)).trans f101
  have f150 : w159 12 = some (kl_aR G 6 4 (va_up ((fun _ => none)) 0 (some (B + 14)))) := (fr166 _ (by decide) (by decide) (by decide)).trans f150
  have f123 : w159 13 = some (kl_aZ G 24 ((fun _ => 0))) := (fr166 _ (by decide) (by decide) (by decide)).trans f123
  have f145 : w159 14 = some (.inr (2, [.ref (B + 15), .ref (B + 16)])) := (fr166 _ (by decide) (by decide) (by decide)).trans f145
  have f146 : w159 15 = some (kl_aI G 24 ((fun _ => (-1)))) := (fr166 _ (by decide) (by decide) (by decide)).trans f146
  have f147 : w159 16 = some (kl_aI G 96 ((fun _ => 0))) := (fr166 _ (by decide) (by decide) (by decide)).trans f147
  have f163 : w159 17 = some (.inr (2, [.ref (B + 18), .ref (B + 19)])) := f163
  have f164 : w159 18 = some (kl_aI G 24 ((fun _ => (-1)))) := f164
  have f165 : w159 19 = some (kl_aI G 96 ((fun _ => 0))) := f165
  refine kl_aast hx hb hK hP 6 2 (k0 := 6) (r := (RX2, TX2, 2)) f150 rfl f163 rfl (by omega) (by omega) dX4_init_136 (fun w167 H locs f168 fr169 hzw167 hP => ?_)
  have z170 : H.size = B + 1 + 19 := by omega
  have f132 : w167 0 = some (.inr (4, [.ref (B + 1), .int (nI 0), .ref (B + 2), .int (nI 0), .ref (B + 3), .int (nI 0), .ref (B + 4), .int (nI 0), .ref (B + 5), .int (nI 0), .ref (B + 6), .ref (B + 9), .ref (B + 12), .int (nI 0), .ref (B + 13), .int (nI 0)])) := (fr169 _ (by decide)).trans f132
  have f3 : w167 1 = some (kl_aI G 4 ((fun _ => 0))) := (fr169 _ (by decide)).trans f3
  have f17 : w167 2 = some (kl_aR G 3 6 ((fun _ => none))) := (fr169 _ (by decide)).trans f17
  have f31 : w167 3 = some (kl_aR G 4 4 ((fun _ => none))) := (fr169 _ (by decide)).trans f31
  have f45 : w167 4 = some (kl_aR G 5 4 ((fun _ => none))) := (fr169 _ (by decide)).trans f45
  have f59 : w167 5 = some (kl_aI G 10 ((fun _ => 0))) := (fr169 _ (by decide)).trans f59
  have f81 : w167 6 = some (.inr (2, [.ref (B + 7), .ref (B + 8)])) := (fr169 _ (by decide)).trans f81
  have f82 : w167 7 = some (kl_aI G 24 ((fun _ => (-1)))) := (fr169 _ (by decide)).trans f82
  have f83 : w167 8 = some (kl_aI G 96 ((fun _ => 0))) := (fr169 _ (by decide)).trans f83
  have f99 : w167 9 = some (.inr (2, [.ref (B + 10), .ref (B + 11)])) := (fr169 _ (by decide)).trans f99
  have f100 : w167 10 = some (kl_aI G 24 ((fun _ => (-1)))) := (fr169 _ (by decide)).trans f100
  have f101 : w167 11 = some (kl_aI G 96 ((fun _ => 0))) := (fr169 _ (by decide)).trans f101
  have f123 : w167 13 = some (kl_aZ G 24 ((fun _ => 0))) := (fr169 _ (by decide)).trans f123
  have f145 : w167 14 = some (.inr (2, [.ref (B + 15), .ref (B + 16)])) := (fr169 _ (by decide)).trans f145
  have f146 : w167 15 = some (kl_aI G 24 ((fun _ => (-1)))) := (fr169 _ (by decide)).trans f146
  have f147 : w167 16 = some (kl_aI G 96 ((fun _ => 0))) := (fr169 _ (by decide)).trans f147
  have f163 : w167 17 = some (.inr (2, [.ref (B + 18), .ref (B + 19)])) := (fr169 _ (by decide)).trans f163
  have f164 : w167 18 = some (kl_aI G 24 ((fun _ => (-1)))) := (fr169 _ (by decide)).trans f164
  have f165 : w167 19 = some (kl_aI G 96 ((fun _ => 0))) := (fr169 _ (by decide)).trans f165
  refine lv_iinc (v := nI 2) (lv' := [(1, .int (nI 2)), (0, .ref (B + 0))]) hx hb dX4_init_137 hl (k := 0) rfl (nI_1 _) (by decide) rfl (fun ls hl => ?_)
  refine lv_goto (tgt := 119) hx hb dX4_init_140 (by decide) ?_
  refine lv_iload_n hx hb dX4_init_119 rfl (lv_at hl 0 rfl) ?_
  refine lv_iconst (v := nI 4) hx hb dX4_init_120 (by decide) ?_
  refine kl_ge (tgt := 143) hx hb (by omega) (by omega) dX4_init_121 (by decide) (fun c121 => absurd c121 (by omega)) (fun c121 => ?_)
  refine lv_aload_n hx hb dX4_init_124 rfl (lv_at hl 1 rfl) ?_
  refine kl_get (C := RX4) (T := TX4) (N := 16) (ci := 4) hx hb hts hinX4 hown hK hP f132 rfl 12 (by decide) (hts (.fieldLink RX4 60 "KinLedger" "remembered" "[LKinLedger$Rows;") (by decide +kernel)) (fun _ h9 => h9) rfl dX4_init_125 ?_
  refine lv_iload_n hx hb dX4_init_128 rfl (lv_at hl 0 rfl) ?_
  refine kl_new (ci := 2) (fs := [.null, .null]) (C := RX2) (T := TX2) (N := 2) hx hb hts hinX2 tyX2 tyX2_ok hown (hts (.classLink RX4 50 RX2) (by decide +kernel)) (hts (.instantiable RX2 2) (by decide +kernel)) (hts (.initialized RX2) (by decide +kernel)) hK hP rfl (fun j hj => by rcases (show j = 0 ∨ j = 1 by omega) with rfl | rfl <;> rfl) (Nat.le_of_ble_eq_true rfl) (Nat.le_of_ble_eq_true rfl) dX4_init_129 (fun a171 w172 H hq175 f173 fr174 hzw172 hP => ?_)
  have z176 : H.size = B + 1 + 20 := by omega
  obtain rfl : 20 = a171 := by omega
  have f173 : w172 20 = some (.inr (2, [.null, .null])) := f173
  have f132 : w172 0 = some (.inr (4, [.ref (B + 1), .int (nI 0), .ref (B + 2), .int (nI 0), .ref (B + 3), .int (nI 0), .ref (B + 4), .int (nI 0), .ref (B + 5), .int (nI 0), .ref (B + 6), .ref (B + 9), .ref (B + 12), .int (nI 0), .ref (B + 13), .int (nI 0)])) := (fr174 _ (by decide)).trans f132
  have f3 : w172 1 = some (kl_aI G 4 ((fun _ => 0))) := (fr174 _ (by decide)).trans f3
  have f17 : w172 2 = some (kl_aR G 3 6 ((fun _ => none))) := (fr174 _ (by decide)).trans f17
  have f31 : w172 3 = some (kl_aR G 4 4 ((fun _ => none))) := (fr174 _ (by decide)).trans f31
  have f45 : w172 4 = some (kl_aR G 5 4 ((fun _ => none))) := (fr174 _ (by decide)).trans f45
  have f59 : w172 5 = some (kl_aI G 10 ((fun _ => 0))) := (fr174 _ (by decide)).trans f59
  have f81 : w172 6 = some (.inr (2, [.ref (B + 7), .ref (B + 8)])) := (fr174 _ (by decide)).trans f81
  have f82 : w172 7 = some (kl_aI G 24 ((fun _ => (-1)))) := (fr174 _ (by decide)).trans f82
  have f83 : w172 8 = some (kl_aI G 96 ((fun _ => 0))) := (fr174 _ (by decide)).trans f83
  have f99 : w172 9 = some (.inr (2, [.ref (B + 10), .ref (B + 11)])) := (fr174 _ (by decide)).trans f99
  have f100 : w172 10 = some (kl_aI G 24 ((fun _ => (-1)))) := (fr174 _ (by decide)).trans f100
  have f101 : w172 11 = some (kl_aI G 96 ((fun _ => 0))) := (fr174 _ (by decide)).trans f101
  have f168 : w172 12 = some (kl_aR G 6 4 (va_up (va_up ((fun _ => none)) 0 (some (B + 14))) 1 (some (B + 17)))) := (fr174 _ (by decide)).trans f168
  have f123 : w172 13 = some (kl_aZ G 24 ((fun _ => 0))) := (fr174 _ (by decide)).trans f123
  have f145 : w172 14 = some (.inr (2, [.ref (B + 15), .ref (B + 16)])) := (fr174 _ (by decide)).trans f145
  have f146 : w172 15 = some (kl_aI G 24 ((fun _ => (-1)))) := (fr174 _ (by decide)).trans f146
  have f147 : w172 16 = some (kl_aI G 96 ((fun _ => 0))) := (fr174 _ (by decide)).trans f147
  have f163 : w172 17 = some (.inr (2, [.ref (B + 18), .ref (B + 19)])) := (fr174 _ (by decide)).trans f163
  have f164 : w172 18 = some (kl_aI G 24 ((fun _ => (-1)))) := (fr174 _ (by decide)).trans f164
  have f165 : w172 19 = some (kl_aI G 96 ((fun _ => 0))) := (fr174 _ (by decide)).trans f165
  refine lv_dup hx hb dX4_init_132 rfl ?_
  refine kl_cIz (i := 20) (As := []) (rest := [.ref (B + 20), .int (nI 2), .ref (B + 12)]) ⟨hx, hb, hml, hown, hts⟩ (c_X2_init l G B _ 20 21 f173 (by decide)) (cwI 0 hts gX4_init_X2_init rfl rfl rfl (hts (.initialized RX2) (by decide +kernel)) (hts (.methodLink RX4 52 yX2_init) (by decide +kernel)) (hts (.instanceMethod yX2_init) (by decide +kernel)) rfl (by decide +kernel) ⟨Nat.le_of_ble_eq_true rfl, Nat.le_of_ble_eq_true rfl⟩) (by first | omega | rfl) hK hP rfl hl.1 rfl (Nat.le_of_ble_eq_true rfl) dX4_init_133 ⟨Nat.le_of_ble_eq_true rfl, Nat.le_of_ble_eq_true rfl⟩ (fun w177 H locs q178 hzw177 hP => ?_)
  have z180 : H.size = B + 1 + 22 := by omega
  obtain ⟨f181, f182, f183, fr184⟩ := q178
  have f132 : w177 0 = some (.inr (4, [.ref (B + 1), .int (nI 0), .ref (B + 2), .int (nI 0), .ref (B + 3), .int (nI 0), .ref (B + 4), .int (nI 0), .ref (B + 5), .int (nI 0), .ref (B + 6), .ref (B + 9), .ref (B + 12), .int (nI 0), .ref (B + 13), .int (nI 0)])) := (fr184 _ (by decide) (by decide) (by decide)).trans f132
  have f3 : w177 1 = some (kl_aI G 4 ((fun _ => 0))) := (fr184 _ (by decide) (by decide) (by decide)).trans f3
  have f17 : w177 2 = some (kl_aR G 3 6 ((fun _ => none))) := (fr184 _ (by decide) (by decide) (by decide)).trans f17
  have f31 : w177 3 = some (kl_aR G 4 4 ((fun _ => none))) := (fr184 _ (by decide) (by decide) (by decide)).trans f31
  have f45 : w177 4 = some (kl_aR G 5 4 ((fun _ => none))) := (fr184 _ (by decide) (by decide) (by decide)).trans f45
  have f59 : w177 5 = some (kl_aI G 10 ((fun _ => 0))) := (fr184 _ (by decide) (by decide) (by decide)).trans f59
  have f81 : w177 6 = some (.inr (2, [.ref (B + 7), .ref (B + 8)])) := (fr184 _ (by decide) (by decide) (by decide)).trans f81
  have f82 : w177 7 = some (kl_aI G 24 ((fun _ => (-1)))) := (fr184 _ (by decide) (by decide) (by decide)).trans f82
  have f83 : w177 8 = some (kl_aI G 96 ((fun _ => 0))) := (fr184 _ (by decide) (by decide) (by decide)).trans f83
  have f99 : w177 9 = some (.inr (2, [.ref (B + 10), .ref (B + 11)])) := (fr184 _ (by decide) (by decide) (by decide)).trans f99
  have f100 : w177 10 = some (kl_aI G 24 ((fun _ => (-1)))) := (fr184 _ (by decide) (by decide) (by decide)).trans f100
  have f101 : w177 11 = some (kl_aI G 96 ((fun _ => 0))) := (fr184 _ (by decide) (by decide) (by decide)).trans f101
  have f168 : w177 12 = some (kl_aR G 6 4 (va_up (va_up ((fun _ => none)) 0 (some (B + 14))) 1 (some (B + 17)))) := (fr184 _ (by decide) (by decide) (by decide)).trans f168
  have f123 : w177 13 = some (kl_aZ G 24 ((fun _ => 0))) := (fr184 _ (by decide) (by decide) (by decide)).trans f123
  have f145 : w177 14 = some (.inr (2, [.ref (B + 15), .ref (B + 16)])) := (fr184 _ (by decide) (by decide) (by decide)).trans f145
  have f146 : w177 15 = some (kl_aI G 24 ((fun _ => (-1)))) := (fr184 _ (by decide) (by decide) (by decide)).trans f146
  have f147 : w177 16 = some (kl_aI G 96 ((fun _ => 0))) := (fr184 _ (by decide) (by decide) (by decide)).trans f147
  have f163 : w177 17 = some (.inr (2, [.ref (B + 18), .ref (B + 19)])) := (fr184 _ (by decide) (by decide) (by decide)).trans f163
  have f164 : w177 18 = some (kl_aI G 24 ((fun _ => (-1)))) := (fr184 _ (by decide) (by decide) (by decide)).trans f164
  have f165 : w177 19 = some (kl_aI G 96 ((fun _ => 0))) := (fr184 _ (by decide) (by decide) (by decide)).trans f165
  have f181 : w177 20 = some (.inr (2, [.ref (B + 21), .ref (B + 22)])) := f181
  have f182 : w177 21 = some (kl_aI G 24 ((fun _ => (-1)))) := f182
  have f183 : w177 22 = some (kl_aI G 96 ((fun _ => 0))) := f183
  refine kl_aast hx hb hK hP 6 2 (k0 := 6) (r := (RX2, TX2, 2)) f168 rfl f181 rfl (by omega) (by omega) dX4_init_136 (fun w185 H locs f186 fr187 hzw185 hP => ?_)
  have z188 : H.size = B + 1 + 22 := by omega
  have f132 : w185 0 = some (.inr (4, [.ref (B + 1), .int (nI 0), .ref (B + 2), .int (nI 0), .ref (B + 3), .int (nI 0), .ref (B + 4), .int (nI 0), .ref (B + 5), .int (nI 0), .ref (B + 6), .ref (B + 9), .ref (B + 12), .int (nI 0), .ref (B + 13), .int (nI 0)])) := (fr187 _ (by decide)).trans f132
  have f3 : w185 1 = some (kl_aI G 4 ((fun _ => 0))) := (fr187 _ (by decide)).trans f3
  have f17 : w185 2 = some (kl_aR G 3 6 ((fun _ => none))) := (fr187 _ (by decide)).trans f17
  have f31 : w185 3 = some (kl_aR G 4 4 ((fun _ => none))) := (fr187 _ (by decide)).trans f31
  have f45 : w185 4 = some (kl_aR G 5 4 ((fun _ => none))) := (fr187 _ (by decide)).trans f45
  have f59 : w185 5 = some (kl_aI G 10 ((fun _ => 0))) := (fr187 _ (by decide)).trans f59
  have f81 : w185 6 = some (.inr (2, [.ref (B + 7), .ref (B + 8)])) := (fr187 _ (by decide)).trans f81
  have f82 : w185 7 = some (kl_aI G 24 ((fun _ => (-1)))) := (fr187 _ (by decide)).trans f82
  have f83 : w185 8 = some (kl_aI G 96 ((fun _ => 0))) := (fr187 _ (by decide)).trans f83
  have f99 : w185 9 = some (.inr (2, [.ref (B + 10), .ref (B + 11)])) := (fr187 _ (by decide)).trans f99
  have f100 : w185 10 = some (kl_aI G 24 ((fun _ => (-1)))) := (fr187 _ (by decide)).trans f100
  have f101 : w185 11 = some (kl_aI G 96 ((fun _ => 0))) := (fr187 _ (by decide)).trans f101
  have f123 : w185 13 = some (kl_aZ G 24 ((fun _ => 0))) := (fr187 _ (by decide)).trans f123
  have f145 : w185 14 = some (.inr (2, [.ref (B + 15), .ref (B + 16)])) := (fr187 _ (by decide)).trans f145
  have f146 : w185 15 = some (kl_aI G 24 ((fun _ => (-1)))) := (fr187 _ (by decide)).trans f146
  have f147 : w185 16 = some (kl_aI G 96 ((fun _ => 0))) := (fr187 _ (by decide)).trans f147
  have f163 : w185 17 = some (.inr (2, [.ref (B + 18), .ref (B + 19)])) := (fr187 _ (by decide)).trans f163
  have f164 : w185 18 = some (kl_aI G 24 ((fun _ => (-1)))) := (fr187 _ (by decide)).trans f164
  have f165 : w185 19 = some (kl_aI G 96 ((fun _ => 0))) := (fr187 _ (by decide)).trans f165
  have f181 : w185 20 = some (.inr (2, [.ref (B + 21), .ref (B + 22)])) := (fr187 _ (by decide)).trans f181
  have f182 : w185 21 = some (kl_aI G 24 ((fun _ => (-1)))) := (fr187 _ (by decide)).trans f182
  have f183 : w185 22 = some (kl_aI G 96 ((fun _ => 0))) := (fr187 _ (by decide)).trans f183
  refine lv_iinc (v := nI 3) (lv' := [(1, .int (nI 3)), (0, .ref (B + 0))]) hx hb dX4_init_137 hl (k := 0) rfl (nI_1 _) (by decide) rfl (fun ls hl => ?_)
  refine lv_goto (tgt := 119) hx hb dX4_init_140 (by decide) ?_
  refine lv_iload_n hx hb dX4_init_119 rfl (lv_at hl 0 rfl) ?_
  refine lv_iconst (v := nI 4) hx hb dX4_init_120 (by decide) ?_
  refine kl_ge (tgt := 143) hx hb (by omega) (by omega) dX4_init_121 (by decide) (fun c121 => absurd c121 (by omega)) (fun c121 => ?_)
  refine lv_aload_n hx hb dX4_init_124 rfl (lv_at hl 1 rfl) ?_
  refine kl_get (C := RX4) (T := TX4) (N := 16) (ci := 4) hx hb hts hinX4 hown hK hP f132 rfl 12 (by decide) (hts (.fieldLink RX4 60 "KinLedger" "remembered" "[LKinLedger$Rows;") (by decide +kernel)) (fun _ h9 => h9) rfl dX4_init_125 ?_
  refine lv_iload_n hx hb dX4_init_128 rfl (lv_at hl 0 rfl) ?_
  refine kl_new (ci := 2) (fs := [.null, .null]) (C := RX2) (T := TX2) (N := 2) hx hb hts hinX2 tyX2 tyX2_ok hown (hts (.classLink RX4 50 RX2) (by decide +kernel)) (hts (.instantiable RX2 2) (by decide +kernel)) (hts (.initialized RX2) (by decide +kernel)) hK hP rfl (fun j hj => by rcases (show j = 0 ∨ j = 1 by omega) with rfl | rfl <;> rfl) (Nat.le_of_ble_eq_true rfl) (Nat.le_of_ble_eq_true rfl) dX4_init_129 (fun a189 w190 H hq193 f191 fr192 hzw190 hP => ?_)
  have z194 : H.size = B + 1 + 23 := by omega
  obtain rfl : 23 = a189 := by omega
  have f191 : w190 23 = some (.inr (2, [.null, .null])) := f191
  have f132 : w190 0 = some (.inr (4, [.ref (B + 1), .int (nI 0), .ref (B + 2), .int (nI 0), .ref (B + 3), .int (nI 0), .ref (B + 4), .int (nI 0), .ref (B + 5), .int (nI 0), .ref (B + 6), .ref (B + 9), .ref (B + 12), .int (nI 0), .ref (B + 13), .int (nI 0)])) := (fr192 _ (by decide)).trans f132
  have f3 : w190 1 = some (kl_aI G 4 ((fun _ => 0))) := (fr192 _ (by decide)).trans f3
  have f17 : w190 2 = some (kl_aR G 3 6 ((fun _ => none))) := (fr192 _ (by decide)).trans f17
  have f31 : w190 3 = some (kl_aR G 4 4 ((fun _ => none))) := (fr192 _ (by decide)).trans f31
  have f45 : w190 4 = some (kl_aR G 5 4 ((fun _ => none))) := (fr192 _ (by decide)).trans f45
  have f59 : w190 5 = some (kl_aI G 10 ((fun _ => 0))) := (fr192 _ (by decide)).trans f59
  have f81 : w190 6 = some (.inr (2, [.ref (B + 7), .ref (B + 8)])) := (fr192 _ (by decide)).trans f81
  have f82 : w190 7 = some (kl_aI G 24 ((fun _ => (-1)))) := (fr192 _ (by decide)).trans f82
  have f83 : w190 8 = some (kl_aI G 96 ((fun _ => 0))) := (fr192 _ (by decide)).trans f83
  have f99 : w190 9 = some (.inr (2, [.ref (B + 10), .ref (B + 11)])) := (fr192 _ (by decide)).trans f99
  have f100 : w190 10 = some (kl_aI G 24 ((fun _ => (-1)))) := (fr192 _ (by decide)).trans f100
  have f101 : w190 11 = some (kl_aI G 96 ((fun _ => 0))) := (fr192 _ (by decide)).trans f101
  have f186 : w190 12 = some (kl_aR G 6 4 (va_up (va_up (va_up ((fun _ => none)) 0 (some (B + 14))) 1 (some (B + 17))) 2 (some (B + 20)))) := (fr192 _ (by decide)).trans f186
  have f123 : w190 13 = some (kl_aZ G 24 ((fun _ => 0))) := (fr192 _ (by decide)).trans f123
  have f145 : w190 14 = some (.inr (2, [.ref (B + 15), .ref (B + 16)])) := (fr192 _ (by decide)).trans f145
  have f146 : w190 15 = some (kl_aI G 24 ((fun _ => (-1)))) := (fr192 _ (by decide)).trans f146
  have f147 : w190 16 = some (kl_aI G 96 ((fun _ => 0))) := (fr192 _ (by decide)).trans f147
  have f163 : w190 17 = some (.inr (2, [.ref (B + 18), .ref (B + 19)])) := (fr192 _ (by decide)).trans f163
  have f164 : w190 18 = some (kl_aI G 24 ((fun _ => (-1)))) := (fr192 _ (by decide)).trans f164
  have f165 : w190 19 = some (kl_aI G 96 ((fun _ => 0))) := (fr192 _ (by decide)).trans f165
  have f181 : w190 20 = some (.inr (2, [.ref (B + 21), .ref (B + 22)])) := (fr192 _ (by decide)).trans f181
  have f182 : w190 21 = some (kl_aI G 24 ((fun _ => (-1)))) := (fr192 _ (by decide)).trans f182
  have f183 : w190 22 = some (kl_aI G 96 ((fun _ => 0))) := (fr192 _ (by decide)).trans f183
  refine lv_dup hx hb dX4_init_132 rfl ?_
  refine kl_cIz (i := 23) (As := []) (rest := [.ref (B + 23), .int (nI 3), .ref (B + 12)]) ⟨hx, hb, hml, hown, hts⟩ (c_X2_init l G B _ 23 24 f191 (by decide)) (cwI 0 hts gX4_init_X2_init rfl rfl rfl (hts (.initialized RX2) (by decide +kernel)) (hts (.methodLink RX4 52 yX2_init) (by decide +kernel)) (hts (.instanceMethod yX2_init) (by decide +kernel)) rfl (by decide +kernel) ⟨Nat.le_of_ble_eq_true rfl, Nat.le_of_ble_eq_true rfl⟩) (by first | omega | rfl) hK hP rfl hl.1 rfl (Nat.le_of_ble_eq_true rfl) dX4_init_133 ⟨Nat.le_of_ble_eq_true rfl, Nat.le_of_ble_eq_true rfl⟩ (fun w195 H locs q196 hzw195 hP => ?_)
  have z198 : H.size = B + 1 + 25 := by omega
  obtain ⟨f199, f200, f201, fr202⟩ := q196
  have f132 : w195 0 = some (.inr (4, [.ref (B + 1), .int (nI 0), .ref (B + 2), .int (nI 0), .ref (B + 3), .int (nI 0), .ref (B + 4), .int (nI 0), .ref (B + 5), .int (nI 0), .ref (B + 6), .ref (B + 9), .ref (B + 12), .int (nI 0), .ref (B + 13), .int (nI 0)])) := (fr202 _ (by decide) (by decide) (by decide)).trans f132
  have f3 : w195 1 = some (kl_aI G 4 ((fun _ => 0))) := (fr202 _ (by decide) (by decide) (by decide)).trans f3
  have f17 : w195 2 = some (kl_aR G 3 6 ((fun _ => none))) := (fr202 _ (by decide) (by decide) (by decide)).trans f17
  have f31 : w195 3 = some (kl_aR G 4 4 ((fun _ => none))) := (fr202 _ (by decide) (by decide) (by decide)).trans f31
  have f45 : w195 4 = some (kl_aR G 5 4 ((fun _ => none))) := (fr202 _ (by decide) (by decide) (by decide)).trans f45
  have f59 : w195 5 = some (kl_aI G 10 ((fun _ => 0))) := (fr202 _ (by decide) (by decide) (by decide)).trans f59
  have f81 : w195 6 = some (.inr (2, [.ref (B + 7), .ref (B + 8)])) := (fr202 _ (by decide) (by decide) (by decide)).trans f81
  have f82 : w195 7 = some (kl_aI G 24 ((fun _ => (-1)))) := (fr202 _ (by decide) (by decide) (by decide)).trans f82
  have f83 : w195 8 = some (kl_aI G 96 ((fun _ => 0))) := (fr202 _ (by decide) (by decide) (by decide)).trans f83
  have f99 : w195 9 = some (.inr (2, [.ref (B + 10), .ref (B + 11)])) := (fr202 _ (by decide) (by decide) (by decide)).trans f99
  have f100 : w195 10 = some (kl_aI G 24 ((fun _ => (-1)))) := (fr202 _ (by decide) (by decide) (by decide)).trans f100
  have f101 : w195 11 = some (kl_aI G 96 ((fun _ => 0))) := (fr202 _ (by decide) (by decide) (by decide)).trans f101
  have f186 : w195 12 = some (kl_aR G 6 4 (va_up (va_up (va_up ((fun _ => none)) 0 (some (B + 14))) 1 (some (B + 17))) 2 (some (B + 20)))) := (fr202 _ (by decide) (by decide) (by decide)).trans f186
  have f123 : w195 13 = some (kl_aZ G 24 ((fun _ => 0))) := (fr202 _ (by decide) (by decide) (by decide)).trans f123
  have f145 : w195 14 = some (.inr (2, [.ref (B + 15), .ref (B + 16)])) := (fr202 _ (by decide) (by decide) (by decide)).trans f145
  have f146 : w195 15 = some (kl_aI G 24 ((fun _ => (-1)))) := (fr202 _ (by decide) (by decide) (by decide)).trans f146
  have f147 : w195 16 = some (kl_aI G 96 ((fun _ => 0))) := (fr202 _ (by decide) (by decide) (by decide)).trans f147
  have f163 : w195 17 = some (.inr (2, [.ref (B + 18), .ref (B + 19)])) := (fr202 _ (by decide) (by decide) (by decide)).trans f163
  have f164 : w195 18 = some (kl_aI G 24 ((fun _ => (-1)))) := (fr202 _ (by decide) (by decide) (by decide)).trans f164
  have f165 : w195 19 = some (kl_aI G 96 ((fun _ => 0))) := (fr202 _ (by decide) (by decide) (by decide)).trans f165
  have f181 : w195 20 = some (.inr (2, [.ref (B + 21), .ref (B + 22)])) := (fr202 _ (by decide) (by decide) (by decide)).trans f181
  have f182 : w195 21 = some (kl_aI G 24 ((fun _ => (-1)))) := (fr202 _ (by decide) (by decide) (by decide)).trans f182
  have f183 : w195 22 = some (kl_aI G 96 ((fun _ => 0))) := (fr202 _ (by decide) (by decide) (by decide)).trans f183
  have f199 : w195 23 = some (.inr (2, [.ref (B + 24), .ref (B + 25)])) := f199
  have f200 : w195 24 = some (kl_aI G 24 ((fun _ => (-1)))) := f200
  have f201 : w195 25 = some (kl_aI G 96 ((fun _ => 0))) := f201
  refine kl_aast hx hb hK hP 6 2 (k0 := 6) (r := (RX2, TX2, 2)) f186 rfl f199 rfl (by omega) (by omega) dX4_init_136 (fun w203 H locs f204 fr205 hzw203 hP => ?_)
  have z206 : H.size = B + 1 + 25 := by omega
  have f132 : w203 0 = some (.inr (4, [.ref (B + 1), .int (nI 0), .ref (B + 2), .int (nI 0), .ref (B + 3), .int (nI 0), .ref (B + 4), .int (nI 0), .ref (B + 5), .int (nI 0), .ref (B + 6), .ref (B + 9), .ref (B + 12), .int (nI 0), .ref (B + 13), .int (nI 0)])) := (fr205 _ (by decide)).trans f132
  have f3 : w203 1 = some (kl_aI G 4 ((fun _ => 0))) := (fr205 _ (by decide)).trans f3
  have f17 : w203 2 = some (kl_aR G 3 6 ((fun _ => none))) := (fr205 _ (by decide)).trans f17
  have f31 : w203 3 = some (kl_aR G 4 4 ((fun _ => none))) := (fr205 _ (by decide)).trans f31
  have f45 : w203 4 = some (kl_aR G 5 4 ((fun _ => none))) := (fr205 _ (by decide)).trans f45
  have f59 : w203 5 = some (kl_aI G 10 ((fun _ => 0))) := (fr205 _ (by decide)).trans f59
  have f81 : w203 6 = some (.inr (2, [.ref (B + 7), .ref (B + 8)])) := (fr205 _ (by decide)).trans f81
  have f82 : w203 7 = some (kl_aI G 24 ((fun _ => (-1)))) := (fr205 _ (by decide)).trans f82
  have f83 : w203 8 = some (kl_aI G 96 ((fun _ => 0))) := (fr205 _ (by decide)).trans f83
  have f99 : w203 9 = some (.inr (2, [.ref (B + 10), .ref (B + 11)])) := (fr205 _ (by decide)).trans f99
  have f100 : w203 10 = some (kl_aI G 24 ((fun _ => (-1)))) := (fr205 _ (by decide)).trans f100
  have f101 : w203 11 = some (kl_aI G 96 ((fun _ => 0))) := (fr205 _ (by decide)).trans f101
  have f123 : w203 13 = some (kl_aZ G 24 ((fun _ => 0))) := (fr205 _ (by decide)).trans f123
  have f145 : w203 14 = some (.inr (2, [.ref (B + 15), .ref (B + 16)])) := (fr205 _ (by decide)).trans f145
  have f146 : w203 15 = some (kl_aI G 24 ((fun _ => (-1)))) := (fr205 _ (by decide)).trans f146
  have f147 : w203 16 = some (kl_aI G 96 ((fun _ => 0))) := (fr205 _ (by decide)).trans f147
  have f163 : w203 17 = some (.inr (2, [.ref (B + 18), .ref (B + 19)])) := (fr205 _ (by decide)).trans f163
  have f164 : w203 18 = some (kl_aI G 24 ((fun _ => (-1)))) := (fr205 _ (by decide)).trans f164
  have f165 : w203 19 = some (kl_aI G 96 ((fun _ => 0))) := (fr205 _ (by decide)).trans f165
  have f181 : w203 20 = some (.inr (2, [.ref (B + 21), .ref (B + 22)])) := (fr205 _ (by decide)).trans f181
  have f182 : w203 21 = some (kl_aI G 24 ((fun _ => (-1)))) := (fr205 _ (by decide)).trans f182
  have f183 : w203 22 = some (kl_aI G 96 ((fun _ => 0))) := (fr205 _ (by decide)).trans f183
  have f199 : w203 23 = some (.inr (2, [.ref (B + 24), .ref (B + 25)])) := (fr205 _ (by decide)).trans f199
  have f200 : w203 24 = some (kl_aI G 24 ((fun _ => (-1)))) := (fr205 _ (by decide)).trans f200
  have f201 : w203 25 = some (kl_aI G 96 ((fun _ => 0))) := (fr205 _ (by decide)).trans f201
  refine lv_iinc (v := nI 4) (lv' := [(1, .int (nI 4)), (0, .ref (B + 0))]) hx hb dX4_init_137 hl (k := 0) rfl (nI_1 _) (by decide) rfl (fun ls hl => ?_)
  refine lv_goto (tgt := 119) hx hb dX4_init_140 (by decide) ?_
  refine lv_iload_n hx hb dX4_init_119 rfl (lv_at hl 0 rfl) ?_
  refine lv_iconst (v := nI 4) hx hb dX4_init_120 (by decide) ?_
  refine kl_ge (tgt := 143) hx hb (by omega) (by omega) dX4_init_121 (by decide) (fun c121 => ?_) (fun c121 => absurd c121 (by omega))
  obtain ⟨w209, f207, fr208, hP⟩ := kl_arrR (g := fun j => some (B + (14 + 3 * j))) hP f204 (fun j hj => by rcases (show j = 0 ∨ j = 1 ∨ j = 2 ∨ j = 3 by omega) with rfl | rfl | rfl | rfl <;> rfl)
  have f132 : w209 0 = some (.inr (4, [.ref (B + 1), .int (nI 0), .ref (B + 2), .int (nI 0), .ref (B + 3), .int (nI 0), .ref (B + 4), .int (nI 0), .ref (B + 5), .int (nI 0), .ref (B + 6), .ref (B + 9), .ref (B + 12), .int (nI 0), .ref (B + 13), .int (nI 0)])) := (fr208 _ (by decide)).trans f132
  have f3 : w209 1 = some (kl_aI G 4 ((fun _ => 0))) := (fr208 _ (by decide)).trans f3
  have f17 : w209 2 = some (kl_aR G 3 6 ((fun _ => none))) := (fr208 _ (by decide)).trans f17
  have f31 : w209 3 = some (kl_aR G 4 4 ((fun _ => none))) := (fr208 _ (by decide)).trans f31
  have f45 : w209 4 = some (kl_aR G 5 4 ((fun _ => none))) := (fr208 _ (by decide)).trans f45
  have f59 : w209 5 = some (kl_aI G 10 ((fun _ => 0))) := (fr208 _ (by decide)).trans f59
  have f81 : w209 6 = some (.inr (2, [.ref (B + 7), .ref (B + 8)])) := (fr208 _ (by decide)).trans f81
  have f82 : w209 7 = some (kl_aI G 24 ((fun _ => (-1)))) := (fr208 _ (by decide)).trans f82
  have f83 : w209 8 = some (kl_aI G 96 ((fun _ => 0))) := (fr208 _ (by decide)).trans f83
  have f99 : w209 9 = some (.inr (2, [.ref (B + 10), .ref (B + 11)])) := (fr208 _ (by decide)).trans f99
  have f100 : w209 10 = some (kl_aI G 24 ((fun _ => (-1)))) := (fr208 _ (by decide)).trans f100
  have f101 : w209 11 = some (kl_aI G 96 ((fun _ => 0))) := (fr208 _ (by decide)).trans f101
  have f123 : w209 13 = some (kl_aZ G 24 ((fun _ => 0))) := (fr208 _ (by decide)).trans f123
  have f145 : w209 14 = some (.inr (2, [.ref (B + 15), .ref (B + 16)])) := (fr208 _ (by decide)).trans f145
  have f146 : w209 15 = some (kl_aI G 24 ((fun _ => (-1)))) := (fr208 _ (by decide)).trans f146
  have f147 : w209 16 = some (kl_aI G 96 ((fun _ => 0))) := (fr208 _ (by decide)).trans f147
  have f163 : w209 17 = some (.inr (2, [.ref (B + 18), .ref (B + 19)])) := (fr208 _ (by decide)).trans f163
  have f164 : w209 18 = some (kl_aI G 24 ((fun _ => (-1)))) := (fr208 _ (by decide)).trans f164
  have f165 : w209 19 = some (kl_aI G 96 ((fun _ => 0))) := (fr208 _ (by decide)).trans f165
  have f181 : w209 20 = some (.inr (2, [.ref (B + 21), .ref (B + 22)])) := (fr208 _ (by decide)).trans f181
  have f182 : w209 21 = some (kl_aI G 24 ((fun _ => (-1)))) := (fr208 _ (by decide)).trans f182
  have f183 : w209 22 = some (kl_aI G 96 ((fun _ => 0))) := (fr208 _ (by decide)).trans f183
  have f199 : w209 23 = some (.inr (2, [.ref (B + 24), .ref (B + 25)])) := (fr208 _ (by decide)).trans f199
  have f200 : w209 24 = some (kl_aI G 24 ((fun _ => (-1)))) := (fr208 _ (by decide)).trans f200
  have f201 : w209 25 = some (kl_aI G 96 ((fun _ => 0))) := (fr208 _ (by decide)).trans f201
  refine W.widen (k := 25) (n := 788) (by omega) (by omega) ?_
  exact kl_vretz hx hb hr hlocks hP ⟨f132, by have h9 := f3; rw [kl_zf] at h9; exact h9, f17, f31, f45, by have h9 := f59; rw [kl_zf] at h9; exact h9, f81, f82, f83, f99, f100, f101, f207, f123, f145, f146, f147, f163, f164, f165, f181, f182, f183, f199, f200, f201⟩ (by omega) dX4_init_143

abbrev rm_X4_link : Room := { frames := 7, cells := 5, slots := 28, locals := 112 }
set_option maxHeartbeats 4000000 in
set_option maxRecDepth 100000 in
theorem c_X4_link (l : Launch) (hst : l.stackTraces = false) (G : kl_G) (B : Nat) (w : kl_M) {nT nW nM : Nat} {rs : Int32} {nL nS nC : Nat} {cn : Nat → Nat} {T C : Nat → Int32} {lf : Nat → Option Nat} {ol : Nat → Int64} (ch cc pa wy : Int32) (k0 : w 0 = some (.inr (4, [.ref (B + 1), .int (nI nT), .ref (B + 2), .int (nI nL), .ref (B + 3), .int (nI nS), .ref (B + 4), .int (nI nC), .ref (B + 5), .int (nI nW), .ref (B + 6), .ref (B + 9), .ref (B + 12), .int (nI nM), .ref (B + 13), .int rs]))) (k1 : w 1 = some (kl_aI G 4 ((fun t => nI (cn t))))) (k2 : w 2 = some (kl_aR G 3 6 lf)) (k6 : w 6 = some (.inr (2, [.ref (B + 7), .ref (B + 8)]))) (k7 : w 7 = some (kl_aI G 24 T)) (k8 : w 8 = some (kl_aI G 96 C)) (k47 : w 47 = some (kl_aL G 1 ol)) (hn : nT ≤ 4) (hnL : nL ≤ 6) (hcn4 : ∀ j, j < nT → cn j ≤ 4) : vx_Met l yX4_link wsX4_link rm_X4_link (kl_Px G B w [.ref (B + 0), .int ch, .int cc, .int pa, .int wy]) (kl_Qi G B (fun r w1 => mt_lkok ch cc pa wy nT cn ∧ nL < 6 ∧ r = nI nL ∧ ∃ co q, cc = nI co ∧ 0 < co ∧ co < 4 ∧ ¬ mt_lbrk T C ch co pa ∧ 48 ≤ q ∧ (∀ (j : Nat) (e : va_E), w j = some e → j < q) ∧ w1 q = some (.inr (1, [.int ch, .int (nI co), .int pa, .int wy])) ∧ w1 2 = some (kl_aR G 3 6 (va_up lf nL (some (B + q)))) ∧ w1 0 = some (.inr (4, [.ref (B + 1), .int (nI nT), .ref (B + 2), .int (nI (nL + 1)), .ref (B + 3), .int (nI nS), .ref (B + 4), .int (nI nC), .ref (B + 5), .int (nI nW), .ref (B + 6), .ref (B + 9), .ref (B + 12), .int (nI nM), .ref (B + 13), .int rs])) ∧ ∀ (j : Nat) (e : va_E), w j = some e → j ≠ 0 → j ≠ 2 → w1 j = some e)) (kl_X G B (fun E w1 => (E = "java/lang/IllegalArgumentException" ∧ w1 = w ∧ ¬ mt_lkok ch cc pa wy nT cn) ∨ (E = "java/util/NoSuchElementException" ∧ w1 = w ∧ mt_lkok ch cc pa wy nT cn ∧ ¬ nL < 6) ∨ (E = "java/lang/IllegalStateException" ∧ mt_lkok ch cc pa wy nT cn ∧ nL < 6 ∧ ∃ co, cc = nI co ∧ co < 4 ∧ mt_lbrk T C ch co pa ∧ w1 0 = some (.inr (4, [.ref (B + 1), .int (nI nT), .ref (B + 2), .int (nI nL), .ref (B + 3), .int (nI nS), .ref (B + 4), .int (nI nC), .ref (B + 5), .int (nI nW), .ref (B + 6), .ref (B + 9), .ref (B + 12), .int (nI nM), .ref (B + 13), .int ((nI (400 + nL)))])) ∧ w1 2 = some (kl_aR G 3 6 lf) ∧ ∀ (j : Nat) (e : va_E), w j = some e → j ≠ 0 → j ≠ 2 → w1 j = some e))) 5 28 (kl_fr B) := by
  refine vx_ofW (cc := cX4_link) (maxL := 6) (ret := (some .int)) (by decide) rfl ?_
  intro pg e s m args below meth cd s₁ Bd hml hout hv
  obtain ⟨rfl, hP0, hK, hZ⟩ := hv
  have hx := Bd.exec
  have hb := Bd.bytes
  have hr := Bd.returns
  have hts := atoms_spec (ws := wsX4_link) Bd.pre
  have hown : s.vm.findClass RX4 = some m.cls := findClass_of_methodNamed Bd.named
  have hlocks := Bd.notSynchronized
  have hinX1 : ∀ w ∈ u_ws RX1 TX1 4, w ∈ wsX4_link := by decide +kernel
  have hinX4 : ∀ w ∈ u_ws RX4 TX4 16, w ∈ wsX4_link := by decide +kernel
  have hP := kl_S.rf hP0
  have hl := lv_entry ([.ref (B + 0), .int ch, .int cc, .int pa, .int wy]) (n := 6) (Nat.le_of_ble_eq_true rfl)
  rw [lg_entry_eq]
  generalize (lg_sl ([.ref (B + 0), .int ch, .int cc, .int pa, .int wy]) ++ List.replicate (6 - (lg_sl ([.ref (B + 0), .int ch, .int cc, .int pa, .int wy])).length) Slot.unset).toArray = ls at hl ⊢
  have hl : lv_has ls 6 [(0, .ref (B + 0)), (1, .int ch), (2, .int cc), (3, .int pa), (4, .int wy)] := hl
  have frm : ∀ (j : Nat) (e : va_E), w j = some e → j ≠ 0 → j ≠ 2 → w j = some e := fun j e hj _ _ => hj
  have hold : ∀ (j : Nat) (e : va_E), w j = some e → B + j < s.heap.size := fun j e h => hP.lt h
  refine lv_aload_n hx hb dX4_link_0 rfl (lv_at hl 0 rfl) ?_
  refine lv_iload_n hx hb dX4_link_1 rfl (lv_at hl 1 rfl) ?_
  refine lv_iload_n hx hb dX4_link_2 rfl (lv_at hl 2 rfl) ?_
  refine kl_cVi (C := RX4) (i := 0) (As := [.int ch, .int cc]) (rest := []) ⟨hx, hb, hml, hown, hts⟩ (c_X4_isCellColumn l G B _ ch cc k0 k1 (by omega) hcn4) (cwV 2 hts gX4_link_X4_isCellColumn rfl rfl rfl (by decide +kernel) ⟨Nat.le_of_ble_eq_true rfl, Nat.le_of_ble_eq_true rfl⟩) hK hP k0 rfl rfl hl.1 rfl (Nat.le_of_ble_eq_true rfl) dX4_link_3 ⟨Nat.le_of_ble_eq_true rfl, Nat.le_of_ble_eq_true rfl⟩ (fun r3 w1 H locs q2 hP => ?_)
  obtain ⟨rfl, hv4⟩ := q2
  refine kl_ifeq (tgt := 21) hx hb hv4 dX4_link_6 (by decide) (fun c6 => ?_) (fun c6 => ?_)
  · refine lv_iconst (v := nI 0) hx hb dX4_link_21 (by decide) ?_
    refine klx_cSv (As := [.int (nI 0)]) (rest := []) ⟨hx, hb, hml, hown, hts⟩ (c_X4_needArgument l hst G B _ (nI 0) (kl_b.f (P := False) not_false)) (va_cwS 1 hts gX4_link_X4_needArgument rfl rfl rfl (by decide +kernel) ⟨Nat.le_of_ble_eq_true rfl, Nat.le_of_ble_eq_true rfl⟩) hK hZ hP rfl hl.1 rfl (Nat.le_of_ble_eq_true rfl) dX4_link_22 ⟨Nat.le_of_ble_eq_true rfl, Nat.le_of_ble_eq_true rfl⟩ (fun E ce q9 w9 H locs hpx hP h9 hv9 hc9 => kl_out hout hlocks hP (Or.inl ⟨hpx.1, hpx.2.1.symm, fun z => c6 z.1⟩) h9 hv9 hc9 (Nat.le_of_ble_eq_true rfl) (Nat.le_of_ble_eq_true rfl)) (fun w5 H locs q6 hP => ?_)
    exact (q6.2).elim
  · refine lv_aload_n hx hb dX4_link_9 rfl (lv_at hl 0 rfl) ?_
    refine lv_iload_n hx hb dX4_link_10 rfl (lv_at hl 3 rfl) ?_
    refine kl_cVi (C := RX4) (i := 0) (As := [.int pa]) (rest := []) ⟨hx, hb, hml, hown, hts⟩ (c_X4_isTable l G B _ pa k0 (by omega)) (cwV 1 hts gX4_link_X4_isTable rfl rfl rfl (by decide +kernel) ⟨Nat.le_of_ble_eq_true rfl, Nat.le_of_ble_eq_true rfl⟩) hK hP k0 rfl rfl hl.1 rfl (Nat.le_of_ble_eq_true rfl) dX4_link_11 ⟨Nat.le_of_ble_eq_true rfl, Nat.le_of_ble_eq_true rfl⟩ (fun r10 w8 H locs q9 hP => ?_)
    obtain ⟨rfl, hv11⟩ := q9
    refine kl_ifeq (tgt := 21) hx hb hv11 dX4_link_14 (by decide) (fun c14 => ?_) (fun c14 => ?_)
    · refine lv_iconst (v := nI 0) hx hb dX4_link_21 (by decide) ?_
      refine klx_cSv (As := [.int (nI 0)]) (rest := []) ⟨hx, hb, hml, hown, hts⟩ (c_X4_needArgument l hst G B _ (nI 0) (kl_b.f (P := False) not_false)) (va_cwS 1 hts gX4_link_X4_needArgument rfl rfl rfl (by decide +kernel) ⟨Nat.le_of_ble_eq_true rfl, Nat.le_of_ble_eq_true rfl⟩) hK hZ hP rfl hl.1 rfl (Nat.le_of_ble_eq_true rfl) dX4_link_22 ⟨Nat.le_of_ble_eq_true rfl, Nat.le_of_ble_eq_true rfl⟩ (fun E ce q9 w9 H locs hpx hP h9 hv9 hc9 => kl_out hout hlocks hP (Or.inl ⟨hpx.1, hpx.2.1.symm, fun z => c14 z.2.1⟩) h9 hv9 hc9 (Nat.le_of_ble_eq_true rfl) (Nat.le_of_ble_eq_true rfl)) (fun w12 H locs q13 hP => ?_)
      exact (q13.2).elim
    · refine lv_iconst (v := nI 1) hx hb dX4_link_17 (by decide) ?_
      refine lv_goto (tgt := 22) hx hb dX4_link_18 (by decide) ?_
      refine klx_cSv (As := [.int (nI 1)]) (rest := []) ⟨hx, hb, hml, hown, hts⟩ (c_X4_needArgument l hst G B _ (nI 1) (kl_b.t (P := True) trivial)) (va_cwS 1 hts gX4_link_X4_needArgument rfl rfl rfl (by decide +kernel) ⟨Nat.le_of_ble_eq_true rfl, Nat.le_of_ble_eq_true rfl⟩) hK hZ hP rfl hl.1 rfl (Nat.le_of_ble_eq_true rfl) dX4_link_22 ⟨Nat.le_of_ble_eq_true rfl, Nat.le_of_ble_eq_true rfl⟩ (fun _ _ _ _ _ _ hpx _ _ _ _ => (hpx.2.2 trivial).elim) (fun w15 H locs q16 hP => ?_)
      obtain ⟨rfl, ok18⟩ := q16
      have hk1 := (⟨c6, c14⟩ : (mt_col ch cc nT cn ∧ cc ≠ 0) ∧ mt_tab pa nT)
      refine lv_iload hx hb dX4_link_25 (lv_at hl 4 rfl) ?_
      refine lv_if_eq (tgt := 42) hx hb dX4_link_27 (by decide) (fun c27 => ?_) (fun c27 => ?_)
      · refine lv_iconst (v := nI 1) hx hb dX4_link_42 (by decide) ?_
        refine lv_goto (tgt := 47) hx hb dX4_link_43 (by decide) ?_
        refine klx_cSv (As := [.int (nI 1)]) (rest := []) ⟨hx, hb, hml, hown, hts⟩ (c_X4_needArgument l hst G B _ (nI 1) (kl_b.t (P := True) trivial)) (va_cwS 1 hts gX4_link_X4_needArgument rfl rfl rfl (by decide +kernel) ⟨Nat.le_of_ble_eq_true rfl, Nat.le_of_ble_eq_true rfl⟩) hK hZ hP rfl hl.1 rfl (Nat.le_of_ble_eq_true rfl) dX4_link_47 ⟨Nat.le_of_ble_eq_true rfl, Nat.le_of_ble_eq_true rfl⟩ (fun _ _ _ _ _ _ hpx _ _ _ _ => (hpx.2.2 trivial).elim) (fun w19 H locs q20 hP => ?_)
        obtain ⟨rfl, ok22⟩ := q20
        have hok : mt_lkok ch cc pa wy nT cn := ⟨hk1.1, hk1.2, Or.inl c27⟩
        refine lv_aload_n hx hb dX4_link_50 rfl (lv_at hl 0 rfl) ?_
        refine kl_get (C := RX4) (T := TX4) (N := 16) (ci := 4) hx hb hts hinX4 hown hK hP k0 rfl 3 (by decide) (hts (.fieldLink RX4 23 "KinLedger" "linkCount" "I") (by decide +kernel)) (fun _ h9 => h9) rfl dX4_link_51 ?_
        refine lv_bipush (v := nI 6) hx hb dX4_link_54 (by decide) ?_
        refine kl_ge (tgt := 63) hx hb (by omega) (by omega) dX4_link_56 (by decide) (fun c56 => ?_) (fun c56 => ?_)
        · refine lv_iconst (v := nI 0) hx hb dX4_link_63 (by decide) ?_
          refine klx_cSv (As := [.int (nI 0)]) (rest := []) ⟨hx, hb, hml, hown, hts⟩ (c_X4_needElement l hst G B _ (nI 0) (kl_b.f (P := False) not_false)) (va_cwS 1 hts gX4_link_X4_needElement rfl rfl rfl (by decide +kernel) ⟨Nat.le_of_ble_eq_true rfl, Nat.le_of_ble_eq_true rfl⟩) hK hZ hP rfl hl.1 rfl (Nat.le_of_ble_eq_true rfl) dX4_link_64 ⟨Nat.le_of_ble_eq_true rfl, Nat.le_of_ble_eq_true rfl⟩ (fun E ce q9 w9 H locs hpx hP h9 hv9 hc9 => kl_out hout hlocks hP (Or.inr (Or.inl ⟨hpx.1, hpx.2.1.symm, hok, by omega⟩)) h9 hv9 hc9 (Nat.le_of_ble_eq_true rfl) (Nat.le_of_ble_eq_true rfl)) (fun w23 H locs q24 hP => ?_)
          exact (q24.2).elim
        · refine lv_iconst (v := nI 1) hx hb dX4_link_59 (by decide) ?_
          refine lv_goto (tgt := 64) hx hb dX4_link_60 (by decide) ?_
          refine klx_cSv (As := [.int (nI 1)]) (rest := []) ⟨hx, hb, hml, hown, hts⟩ (c_X4_needElement l hst G B _ (nI 1) (kl_b.t (P := True) trivial)) (va_cwS 1 hts gX4_link_X4_needElement rfl rfl rfl (by decide +kernel) ⟨Nat.le_of_ble_eq_true rfl, Nat.le_of_ble_eq_true rfl⟩) hK hZ hP rfl hl.1 rfl (Nat.le_of_ble_eq_true rfl) dX4_link_64 ⟨Nat.le_of_ble_eq_true rfl, Nat.le_of_ble_eq_true rfl⟩ (fun _ _ _ _ _ _ hpx _ _ _ _ => (hpx.2.2 trivial).elim) (fun w26 H locs q27 hP => ?_)
          obtain ⟨rfl, ok29⟩ := q27
          obtain ⟨jj, co, hjj, rfl, hco4, rfl⟩ := hk1.1.1
          have hco5 := hcn4 jj hjj
          have hco0 : 0 < co := Nat.pos_of_ne_zero (fun z => hk1.1.2 (by rw [z]; rfl))
          have hle := hP.2.1.1
          have lk47 := hP.lt k47
          refine kl_new (ci := 1) (fs := [.int 0, .int 0, .int 0, .int 0]) (C := RX1) (T := TX1) (N := 4) hx hb hts hinX1 tyX1 tyX1_ok hown (hts (.classLink RX4 17 RX1) (by decide +kernel)) (hts (.instantiable RX1 4) (by decide +kernel)) (hts (.initialized RX1) (by decide +kernel)) hK hP rfl (fun j hj => by rcases (show j = 0 ∨ j = 1 ∨ j = 2 ∨ j = 3 by omega) with rfl | rfl | rfl | rfl <;> rfl) (Nat.le_of_ble_eq_true rfl) (Nat.le_of_ble_eq_true rfl) dX4_link_67 (fun q w30 H hq33 f31 fr32 hzw30 hP => ?_)
          have hgeq : s.heap.size ≤ B + q := by omega
          have f31 : w30 q = some (.inr (1, [.int (nI 0), .int (nI 0), .int (nI 0), .int (nI 0)])) := f31
          have k0 : w30 0 = some (.inr (4, [.ref (B + 1), .int (nI nT), .ref (B + 2), .int (nI nL), .ref (B + 3), .int (nI nS), .ref (B + 4), .int (nI nC), .ref (B + 5), .int (nI nW), .ref (B + 6), .ref (B + 9), .ref (B + 12), .int (nI nM), .ref (B + 13), .int rs])) := (fr32 _ (by omega)).trans k0
          have k1 : w30 1 = some (kl_aI G 4 ((fun t => nI (cn t)))) := (fr32 _ (by omega)).trans k1
          have k2 : w30 2 = some (kl_aR G 3 6 lf) := (fr32 _ (by omega)).trans k2
          have k6 : w30 6 = some (.inr (2, [.ref (B + 7), .ref (B + 8)])) := (fr32 _ (by omega)).trans k6
          have k7 : w30 7 = some (kl_aI G 24 T) := (fr32 _ (by omega)).trans k7
          have k8 : w30 8 = some (kl_aI G 96 C) := (fr32 _ (by omega)).trans k8
          have k47 : w30 47 = some (kl_aL G 1 ol) := (fr32 _ (by omega)).trans k47
          have frm : ∀ (j : Nat) (e : va_E), w j = some e → j ≠ 0 → j ≠ 2 → w30 j = some e := fun j e hj k0 k1 => (fr32 j (by have := hold j e hj; omega)).trans (frm j e hj k0 k1)
          refine lv_dup hx hb dX4_link_70 rfl ?_
          refine lv_iload_n hx hb dX4_link_71 rfl (lv_at hl 1 rfl) ?_
          refine lv_iload_n hx hb dX4_link_72 rfl (lv_at hl 2 rfl) ?_
          refine lv_iload_n hx hb dX4_link_73 rfl (lv_at hl 3 rfl) ?_
          refine lv_iload hx hb dX4_link_74 (lv_at hl 4 rfl) ?_
          refine kl_cIz (i := q) (As := [.int (nI jj), .int (nI co), .int pa, .int wy]) (rest := [.ref (B + q)]) ⟨hx, hb, hml, hown, hts⟩ (c_X1_init l G B _ q _ (nI jj) co pa wy f31) (cwI 4 hts gX4_link_X1_init rfl rfl rfl (hts (.initialized RX1) (by decide +kernel)) (hts (.methodLink RX4 89 yX1_init) (by decide +kernel)) (hts (.instanceMethod yX1_init) (by decide +kernel)) rfl (by decide +kernel) ⟨Nat.le_of_ble_eq_true rfl, Nat.le_of_ble_eq_true rfl⟩) (by first | omega | rfl) hK hP rfl hl.1 rfl (Nat.le_of_ble_eq_true rfl) dX4_link_76 ⟨Nat.le_of_ble_eq_true rfl, Nat.le_of_ble_eq_true rfl⟩ (fun w34 H locs q35 hzw34 hP => ?_)
          obtain ⟨f37, fr38⟩ := q35
          have f37 : w34 q = some (.inr (1, [.int (nI jj), .int (nI co), .int pa, .int wy])) := f37
          have k0 : w34 0 = some (.inr (4, [.ref (B + 1), .int (nI nT), .ref (B + 2), .int (nI nL), .ref (B + 3), .int (nI nS), .ref (B + 4), .int (nI nC), .ref (B + 5), .int (nI nW), .ref (B + 6), .ref (B + 9), .ref (B + 12), .int (nI nM), .ref (B + 13), .int rs])) := (fr38 _ (by omega)).trans k0
          have k1 : w34 1 = some (kl_aI G 4 ((fun t => nI (cn t)))) := (fr38 _ (by omega)).trans k1
          have k2 : w34 2 = some (kl_aR G 3 6 lf) := (fr38 _ (by omega)).trans k2
          have k6 : w34 6 = some (.inr (2, [.ref (B + 7), .ref (B + 8)])) := (fr38 _ (by omega)).trans k6
          have k7 : w34 7 = some (kl_aI G 24 T) := (fr38 _ (by omega)).trans k7
          have k8 : w34 8 = some (kl_aI G 96 C) := (fr38 _ (by omega)).trans k8
          have k47 : w34 47 = some (kl_aL G 1 ol) := (fr38 _ (by omega)).trans k47
          have frm : ∀ (j : Nat) (e : va_E), w j = some e → j ≠ 0 → j ≠ 2 → w34 j = some e := fun j e hj k0 k1 => (fr38 j (by have := hold j e hj; omega)).trans (frm j e hj k0 k1)
          refine lv_astore (lv' := [(5, .ref (B + q)), (0, .ref (B + 0)), (1, .int (nI jj)), (2, .int (nI co)), (3, .int pa), (4, .int wy)]) hx hb dX4_link_79 hl (by decide) rfl (fun ls hl => ?_)
          refine lv_aload_n hx hb dX4_link_81 rfl (lv_at hl 1 rfl) ?_
          refine lv_aload hx hb dX4_link_82 (lv_at hl 0 rfl) ?_
          refine lv_aload_n hx hb dX4_link_84 rfl (lv_at hl 1 rfl) ?_
          refine kl_get (C := RX4) (T := TX4) (N := 16) (ci := 4) hx hb hts hinX4 hown hK hP k0 rfl 10 (by decide) (hts (.fieldLink RX4 53 "KinLedger" "rows" "LKinLedger$Rows;") (by decide +kernel)) (fun _ h9 => h9) rfl dX4_link_85 ?_
          refine kl_cVi (C := RX1) (i := q) (As := [.ref (B + 6)]) (rest := [.ref (B + 0)]) ⟨hx, hb, hml, hown, hts⟩ (c_X1_isBroken l G B _ 6 7 8 q  f37 k6 k7 k8 (by omega)) (cwV 1 hts gX4_link_X1_isBroken rfl rfl rfl (by decide +kernel) ⟨Nat.le_of_ble_eq_true rfl, Nat.le_of_ble_eq_true rfl⟩) hK hP f37 rfl rfl hl.1 rfl (Nat.le_of_ble_eq_true rfl) dX4_link_88 ⟨Nat.le_of_ble_eq_true rfl, Nat.le_of_ble_eq_true rfl⟩ (fun r41 w39 H locs q40 hP => ?_)
          obtain ⟨rfl, hv42⟩ := q40
          refine lv_sipush (v := nI 400) hx hb dX4_link_91 (by decide) ?_
          refine lv_aload_n hx hb dX4_link_94 rfl (lv_at hl 1 rfl) ?_
          refine kl_get (C := RX4) (T := TX4) (N := 16) (ci := 4) hx hb hts hinX4 hown hK hP k0 rfl 3 (by decide) (hts (.fieldLink RX4 23 "KinLedger" "linkCount" "I") (by decide +kernel)) (fun _ h9 => h9) rfl dX4_link_95 ?_
          refine lv_iadd hx hb dX4_link_98 ?_
          refine kl_top (z := nI (400 + nL)) (by first | exact nI_add _ _ | (rw [nI_add]; first | rfl | (congr 1; omega))) ?_
          refine klx_cVv (C := RX4) (i := 0) (As := [.int r41, .int (nI (400 + nL))]) (rest := []) ⟨hx, hb, hml, hown, hts⟩ (c_X4_refuseIf l hst G B _ r41 (nI (400 + nL)) k0 hv42) (cwV 2 hts gX4_link_X4_refuseIf rfl rfl rfl (by decide +kernel) ⟨Nat.le_of_ble_eq_true rfl, Nat.le_of_ble_eq_true rfl⟩) hK hZ hP k0 rfl rfl hl.1 rfl (Nat.le_of_ble_eq_true rfl) dX4_link_99 ⟨Nat.le_of_ble_eq_true rfl, Nat.le_of_ble_eq_true rfl⟩ (fun E ce q9 w9 H locs hpx hP h9 hv9 hc9 => kl_out hout hlocks hP (by obtain ⟨hE, hbk, h09, hfr9⟩ := hpx; exact Or.inr (Or.inr ⟨hE, hok, by omega, co, rfl, by omega, hbk, h09, (hfr9 2 (by decide)).trans k2, fun j e hj k0 k1 => (hfr9 j k0).trans (frm j e hj k0 k1)⟩)) h9 hv9 hc9 (Nat.le_of_ble_eq_true rfl) (Nat.le_of_ble_eq_true rfl)) (fun w43 H locs q44 hP => ?_)
          obtain ⟨rfl, ok46⟩ := q44
          refine lv_aload_n hx hb dX4_link_102 rfl (lv_at hl 1 rfl) ?_
          refine kl_get (C := RX4) (T := TX4) (N := 16) (ci := 4) hx hb hts hinX4 hown hK hP k0 rfl 2 (by decide) (hts (.fieldLink RX4 19 "KinLedger" "links" "[LKinLedger$Link;") (by decide +kernel)) (fun _ h9 => h9) rfl dX4_link_103 ?_
          refine lv_aload_n hx hb dX4_link_106 rfl (lv_at hl 1 rfl) ?_
          refine kl_get (C := RX4) (T := TX4) (N := 16) (ci := 4) hx hb hts hinX4 hown hK hP k0 rfl 3 (by decide) (hts (.fieldLink RX4 23 "KinLedger" "linkCount" "I") (by decide +kernel)) (fun _ h9 => h9) rfl dX4_link_107 ?_
          refine lv_aload hx hb dX4_link_110 (lv_at hl 0 rfl) ?_
          refine kl_aast hx hb hK hP 3 1 (k0 := 3) (r := (RX1, TX1, 4)) k2 rfl f37 rfl (by omega) (by omega) dX4_link_112 (fun w47 H locs f48 fr49 hzw47 hP => ?_)
          have k0 : w47 0 = some (.inr (4, [.ref (B + 1), .int (nI nT), .ref (B + 2), .int (nI nL), .ref (B + 3), .int (nI nS), .ref (B + 4), .int (nI nC), .ref (B + 5), .int (nI nW), .ref (B + 6), .ref (B + 9), .ref (B + 12), .int (nI nM), .ref (B + 13), .int rs])) := (fr49 _ (by decide)).trans k0
          have k1 : w47 1 = some (kl_aI G 4 ((fun t => nI (cn t)))) := (fr49 _ (by decide)).trans k1
          have k6 : w47 6 = some (.inr (2, [.ref (B + 7), .ref (B + 8)])) := (fr49 _ (by decide)).trans k6
          have k7 : w47 7 = some (kl_aI G 24 T) := (fr49 _ (by decide)).trans k7
          have k8 : w47 8 = some (kl_aI G 96 C) := (fr49 _ (by decide)).trans k8
          have k47 : w47 47 = some (kl_aL G 1 ol) := (fr49 _ (by decide)).trans k47
          have f37 : w47 q = some (.inr (1, [.int (nI jj), .int (nI co), .int pa, .int wy])) := (fr49 _ (by omega)).trans f37
          have frm : ∀ (j : Nat) (e : va_E), w j = some e → j ≠ 0 → j ≠ 2 → w47 j = some e := fun j e hj k0 k1 => (fr49 j k1).trans (frm j e hj k0 k1)
          refine lv_aload_n hx hb dX4_link_113 rfl (lv_at hl 1 rfl) ?_
          refine lv_dup hx hb dX4_link_114 rfl ?_
          refine kl_get (C := RX4) (T := TX4) (N := 16) (ci := 4) hx hb hts hinX4 hown hK hP k0 rfl 3 (by decide) (hts (.fieldLink RX4 23 "KinLedger" "linkCount" "I") (by decide +kernel)) (fun _ h9 => h9) rfl dX4_link_115 ?_
          refine lv_iconst (v := nI 1) hx hb dX4_link_118 (by decide) ?_
          refine lv_iadd hx hb dX4_link_119 ?_
          refine kl_top (z := nI (nL + 1)) (by first | exact nI_add _ _ | (rw [nI_add]; first | rfl | (congr 1; omega))) ?_
          refine kl_put (C := RX4) (T := TX4) (N := 16) (ci := 4) (v := .int (nI (nL + 1))) (ty := .int) hx hb hts hinX4 tyX4 tyX4_ok nmX4 hown hK hP k0 rfl 3 (by decide) (hts (.fieldLink RX4 23 "KinLedger" "linkCount" "I") (by decide +kernel)) (fun _ h9 => h9) rfl (by decide +kernel) rfl rfl (Nat.le_of_ble_eq_true rfl) dX4_link_120 (fun w50 H locs f51 fr52 hzw50 hP => ?_)
          have f51 : w50 0 = some (.inr (4, [.ref (B + 1), .int (nI nT), .ref (B + 2), .int (nI (nL + 1)), .ref (B + 3), .int (nI nS), .ref (B + 4), .int (nI nC), .ref (B + 5), .int (nI nW), .ref (B + 6), .ref (B + 9), .ref (B + 12), .int (nI nM), .ref (B + 13), .int rs])) := f51
          have k1 : w50 1 = some (kl_aI G 4 ((fun t => nI (cn t)))) := (fr52 _ (by decide)).trans k1
          have f48 : w50 2 = some (kl_aR G 3 6 (va_up lf nL (some (B + q)))) := (fr52 _ (by decide)).trans f48
          have k6 : w50 6 = some (.inr (2, [.ref (B + 7), .ref (B + 8)])) := (fr52 _ (by decide)).trans k6
          have k7 : w50 7 = some (kl_aI G 24 T) := (fr52 _ (by decide)).trans k7
          have k8 : w50 8 = some (kl_aI G 96 C) := (fr52 _ (by decide)).trans k8
          have k47 : w50 47 = some (kl_aL G 1 ol) := (fr52 _ (by decide)).trans k47
          have f37 : w50 q = some (.inr (1, [.int (nI jj), .int (nI co), .int pa, .int wy])) := (fr52 _ (by omega)).trans f37
          have frm : ∀ (j : Nat) (e : va_E), w j = some e → j ≠ 0 → j ≠ 2 → w50 j = some e := fun j e hj k0 k1 => (fr52 j k0).trans (frm j e hj k0 k1)
          refine lv_aload_n hx hb dX4_link_123 rfl (lv_at hl 1 rfl) ?_
          refine kl_get (C := RX4) (T := TX4) (N := 16) (ci := 4) hx hb hts hinX4 hown hK hP f51 rfl 3 (by decide) (hts (.fieldLink RX4 23 "KinLedger" "linkCount" "I") (by decide +kernel)) (fun _ h9 => h9) rfl dX4_link_124 ?_
          refine lv_iconst (v := nI 1) hx hb dX4_link_127 (by decide) ?_
          refine lv_isub hx hb dX4_link_128 ?_
          refine kl_top (z := nI nL) (by first | exact pk_sub (by omega) | (rw [pk_sub (by omega)]; congr 1; omega)) ?_
          refine W.widen (k := 5) (n := 28) (by omega) (by omega) ?_
          refine vx_ret ?_
          exact kl_iret hx hb hr hlocks hP ⟨hok, by omega, rfl, co, q, rfl, hco0, by omega, ok46, by omega, fun j e hj => by have := hold j e hj; omega, f37, f48, f51, frm⟩ dX4_link_129
      · refine lv_iload hx hb dX4_link_30 (lv_at hl 4 rfl) ?_
        refine lv_iconst (v := nI 1) hx hb dX4_link_32 (by decide) ?_
        refine lv_icmp_eq (tgt := 42) hx hb dX4_link_33 (by decide) (fun c33 => ?_) (fun c33 => ?_)
        · refine lv_iconst (v := nI 1) hx hb dX4_link_42 (by decide) ?_
          refine lv_goto (tgt := 47) hx hb dX4_link_43 (by decide) ?_
          refine klx_cSv (As := [.int (nI 1)]) (rest := []) ⟨hx, hb, hml, hown, hts⟩ (c_X4_needArgument l hst G B _ (nI 1) (kl_b.t (P := True) trivial)) (va_cwS 1 hts gX4_link_X4_needArgument rfl rfl rfl (by decide +kernel) ⟨Nat.le_of_ble_eq_true rfl, Nat.le_of_ble_eq_true rfl⟩) hK hZ hP rfl hl.1 rfl (Nat.le_of_ble_eq_true rfl) dX4_link_47 ⟨Nat.le_of_ble_eq_true rfl, Nat.le_of_ble_eq_true rfl⟩ (fun _ _ _ _ _ _ hpx _ _ _ _ => (hpx.2.2 trivial).elim) (fun w53 H locs q54 hP => ?_)
          obtain ⟨rfl, ok56⟩ := q54
          have hok : mt_lkok ch cc pa wy nT cn := ⟨hk1.1, hk1.2, Or.inr (Or.inl c33)⟩
          refine lv_aload_n hx hb dX4_link_50 rfl (lv_at hl 0 rfl) ?_
          refine kl_get (C := RX4) (T := TX4) (N := 16) (ci := 4) hx hb hts hinX4 hown hK hP k0 rfl 3 (by decide) (hts (.fieldLink RX4 23 "KinLedger" "linkCount" "I") (by decide +kernel)) (fun _ h9 => h9) rfl dX4_link_51 ?_
          refine lv_bipush (v := nI 6) hx hb dX4_link_54 (by decide) ?_
          refine kl_ge (tgt := 63) hx hb (by omega) (by omega) dX4_link_56 (by decide) (fun c56 => ?_) (fun c56 => ?_)
          · refine lv_iconst (v := nI 0) hx hb dX4_link_63 (by decide) ?_
            refine klx_cSv (As := [.int (nI 0)]) (rest := []) ⟨hx, hb, hml, hown, hts⟩ (c_X4_needElement l hst G B _ (nI 0) (kl_b.f (P := False) not_false)) (va_cwS 1 hts gX4_link_X4_needElement rfl rfl rfl (by decide +kernel) ⟨Nat.le_of_ble_eq_true rfl, Nat.le_of_ble_eq_true rfl⟩) hK hZ hP rfl hl.1 rfl (Nat.le_of_ble_eq_true rfl) dX4_link_64 ⟨Nat.le_of_ble_eq_true rfl, Nat.le_of_ble_eq_true rfl⟩ (fun E ce q9 w9 H locs hpx hP h9 hv9 hc9 => kl_out hout hlocks hP (Or.inr (Or.inl ⟨hpx.1, hpx.2.1.symm, hok, by omega⟩)) h9 hv9 hc9 (Nat.le_of_ble_eq_true rfl) (Nat.le_of_ble_eq_true rfl)) (fun w57 H locs q58 hP => ?_)
            exact (q58.2).elim
          · refine lv_iconst (v := nI 1) hx hb dX4_link_59 (by decide) ?_
            refine lv_goto (tgt := 64) hx hb dX4_link_60 (by decide) ?_
            refine klx_cSv (As := [.int (nI 1)]) (rest := []) ⟨hx, hb, hml, hown, hts⟩ (c_X4_needElement l hst G B _ (nI 1) (kl_b.t (P := True) trivial)) (va_cwS 1 hts gX4_link_X4_needElement rfl rfl rfl (by decide +kernel) ⟨Nat.le_of_ble_eq_true rfl, Nat.le_of_ble_eq_true rfl⟩) hK hZ hP rfl hl.1 rfl (Nat.le_of_ble_eq_true rfl) dX4_link_64 ⟨Nat.le_of_ble_eq_true rfl, Nat.le_of_ble_eq_true rfl⟩ (fun _ _ _ _ _ _ hpx _ _ _ _ => (hpx.2.2 trivial).elim) (fun w60 H locs q61 hP => ?_)
            obtain ⟨rfl, ok63⟩ := q61
            obtain ⟨jj, co, hjj, rfl, hco4, rfl⟩ := hk1.1.1
            have hco5 := hcn4 jj hjj
            have hco0 : 0 < co := Nat.pos_of_ne_zero (fun z => hk1.1.2 (by rw [z]; rfl))
            have hle := hP.2.1.1
            have lk47 := hP.lt k47
            refine kl_new (ci := 1) (fs := [.int 0, .int 0, .int 0, .int 0]) (C := RX1) (T := TX1) (N := 4) hx hb hts hinX1 tyX1 tyX1_ok hown (hts (.classLink RX4 17 RX1) (by decide +kernel)) (hts (.instantiable RX1 4) (by decide +kernel)) (hts (.initialized RX1) (by decide +kernel)) hK hP rfl (fun j hj => by rcases (show j = 0 ∨ j = 1 ∨ j = 2 ∨ j = 3 by omega) with rfl | rfl | rfl | rfl <;> rfl) (Nat.le_of_ble_eq_true rfl) (Nat.le_of_ble_eq_true rfl) dX4_link_67 (fun q w64 H hq67 f65 fr66 hzw64 hP => ?_)
            have hgeq : s.heap.size ≤ B + q := by omega
            have f65 : w64 q = some (.inr (1, [.int (nI 0), .int (nI 0), .int (nI 0), .int (nI 0)])) := f65
            have k0 : w64 0 = some (.inr (4, [.ref (B + 1), .int (nI nT), .ref (B + 2), .int (nI nL), .ref (B + 3), .int (nI nS), .ref (B + 4), .int (nI nC), .ref (B + 5), .int (nI nW), .ref (B + 6), .ref (B + 9), .ref (B + 12), .int (nI nM), .ref (B + 13), .int rs])) := (fr66 _ (by omega)).trans k0
            have k1 : w64 1 = some (kl_aI G 4 ((fun t => nI (cn t)))) := (fr66 _ (by omega)).trans k1
            have k2 : w64 2 = some (kl_aR G 3 6 lf) := (fr66 _ (by omega)).trans k2
            have k6 : w64 6 = some (.inr (2, [.ref (B + 7), .ref (B + 8)])) := (fr66 _ (by omega)).trans k6
            have k7 : w64 7 = some (kl_aI G 24 T) := (fr66 _ (by omega)).trans k7
            have k8 : w64 8 = some (kl_aI G 96 C) := (fr66 _ (by omega)).trans k8
            have k47 : w64 47 = some (kl_aL G 1 ol) := (fr66 _ (by omega)).trans k47
            have frm : ∀ (j : Nat) (e : va_E), w j = some e → j ≠ 0 → j ≠ 2 → w64 j = some e := fun j e hj k0 k1 => (fr66 j (by have := hold j e hj; omega)).trans (frm j e hj k0 k1)
            refine lv_dup hx hb dX4_link_70 rfl ?_
            refine lv_iload_n hx hb dX4_link_71 rfl (lv_at hl 1 rfl) ?_
            refine lv_iload_n hx hb dX4_link_72 rfl (lv_at hl 2 rfl) ?_
            refine lv_iload_n hx hb dX4_link_73 rfl (lv_at hl 3 rfl) ?_
            refine lv_iload hx hb dX4_link_74 (lv_at hl 4 rfl) ?_
            refine kl_cIz (i := q) (As := [.int (nI jj), .int (nI co), .int pa, .int wy]) (rest := [.ref (B + q)]) ⟨hx, hb, hml, hown, hts⟩ (c_X1_init l G B _ q _ (nI jj) co pa wy f65) (cwI 4 hts gX4_link_X1_init rfl rfl rfl (hts (.initialized RX1) (by decide +kernel)) (hts (.methodLink RX4 89 yX1_init) (by decide +kernel)) (hts (.instanceMethod yX1_init) (by decide +kernel)) rfl (by decide +kernel) ⟨Nat.le_of_ble_eq_true rfl, Nat.le_of_ble_eq_true rfl⟩) (by first | omega | rfl) hK hP rfl hl.1 rfl (Nat.le_of_ble_eq_true rfl) dX4_link_76 ⟨Nat.le_of_ble_eq_true rfl, Nat.le_of_ble_eq_true rfl⟩ (fun w68 H locs q69 hzw68 hP => ?_)
            obtain ⟨f71, fr72⟩ := q69
            have f71 : w68 q = some (.inr (1, [.int (nI jj), .int (nI co), .int pa, .int wy])) := f71
            have k0 : w68 0 = some (.inr (4, [.ref (B + 1), .int (nI nT), .ref (B + 2), .int (nI nL), .ref (B + 3), .int (nI nS), .ref (B + 4), .int (nI nC), .ref (B + 5), .int (nI nW), .ref (B + 6), .ref (B + 9), .ref (B + 12), .int (nI nM), .ref (B + 13), .int rs])) := (fr72 _ (by omega)).trans k0
            have k1 : w68 1 = some (kl_aI G 4 ((fun t => nI (cn t)))) := (fr72 _ (by omega)).trans k1
            have k2 : w68 2 = some (kl_aR G 3 6 lf) := (fr72 _ (by omega)).trans k2
            have k6 : w68 6 = some (.inr (2, [.ref (B + 7), .ref (B + 8)])) := (fr72 _ (by omega)).trans k6
            have k7 : w68 7 = some (kl_aI G 24 T) := (fr72 _ (by omega)).trans k7
            have k8 : w68 8 = some (kl_aI G 96 C) := (fr72 _ (by omega)).trans k8
            have k47 : w68 47 = some (kl_aL G 1 ol) := (fr72 _ (by omega)).trans k47
            have frm : ∀ (j : Nat) (e : va_E), w j = some e → j ≠ 0 → j ≠ 2 → w68 j = some e := fun j e hj k0 k1 => (fr72 j (by have := hold j e hj; omega)).trans (frm j e hj k0 k1)
            refine lv_astore (lv' := [(5, .ref (B + q)), (0, .ref (B + 0)), (1, .int (nI jj)), (2, .int (nI co)), (3, .int pa), (4, .int wy)]) hx hb dX4_link_79 hl (by decide) rfl (fun ls hl => ?_)
            refine lv_aload_n hx hb dX4_link_81 rfl (lv_at hl 1 rfl) ?_
            refine lv_aload hx hb dX4_link_82 (lv_at hl 0 rfl) ?_
            refine lv_aload_n hx hb dX4_link_84 rfl (lv_at hl 1 rfl) ?_
            refine kl_get (C := RX4) (T := TX4) (N := 16) (ci := 4) hx hb hts hinX4 hown hK hP k0 rfl 10 (by decide) (hts (.fieldLink RX4 53 "KinLedger" "rows" "LKinLedger$Rows;") (by decide +kernel)) (fun _ h9 => h9) rfl dX4_link_85 ?_
            refine kl_cVi (C := RX1) (i := q) (As := [.ref (B + 6)]) (rest := [.ref (B + 0)]) ⟨hx, hb, hml, hown, hts⟩ (c_X1_isBroken l G B _ 6 7 8 q  f71 k6 k7 k8 (by omega)) (cwV 1 hts gX4_link_X1_isBroken rfl rfl rfl (by decide +kernel) ⟨Nat.le_of_ble_eq_true rfl, Nat.le_of_ble_eq_true rfl⟩) hK hP f71 rfl rfl hl.1 rfl (Nat.le_of_ble_eq_true rfl) dX4_link_88 ⟨Nat.le_of_ble_eq_true rfl, Nat.le_of_ble_eq_true rfl⟩ (fun r75 w73 H locs q74 hP => ?_)
            obtain ⟨rfl, hv76⟩ := q74
            refine lv_sipush (v := nI 400) hx hb dX4_link_91 (by decide) ?_
            refine lv_aload_n hx hb dX4_link_94 rfl (lv_at hl 1 rfl) ?_
            refine kl_get (C := RX4) (T := TX4) (N := 16) (ci := 4) hx hb hts hinX4 hown hK hP k0 rfl 3 (by decide) (hts (.fieldLink RX4 23 "KinLedger" "linkCount" "I") (by decide +kernel)) (fun _ h9 => h9) rfl dX4_link_95 ?_
            refine lv_iadd hx hb dX4_link_98 ?_
            refine kl_top (z := nI (400 + nL)) (by first | exact nI_add _ _ | (rw [nI_add]; first | rfl | (congr 1; omega))) ?_
            refine klx_cVv (C := RX4) (i := 0) (As := [.int r75, .int (nI (400 + nL))]) (rest := []) ⟨hx, hb, hml, hown, hts⟩ (c_X4_refuseIf l hst G B _ r75 (nI (400 + nL)) k0 hv76) (cwV 2 hts gX4_link_X4_refuseIf rfl rfl rfl (by decide +kernel) ⟨Nat.le_of_ble_eq_true rfl, Nat.le_of_ble_eq_true rfl⟩) hK hZ hP k0 rfl rfl hl.1 rfl (Nat.le_of_ble_eq_true rfl) dX4_link_99 ⟨Nat.le_of_ble_eq_true rfl, Nat.le_of_ble_eq_true rfl⟩ (fun E ce q9 w9 H locs hpx hP h9 hv9 hc9 => kl_out hout hlocks hP (by obtain ⟨hE, hbk, h09, hfr9⟩ := hpx; exact Or.inr (Or.inr ⟨hE, hok, by omega, co, rfl, by omega, hbk, h09, (hfr9 2 (by decide)).trans k2, fun j e hj k0 k1 => (hfr9 j k0).trans (frm j e hj k0 k1)⟩)) h9 hv9 hc9 (Nat.le_of_ble_eq_true rfl) (Nat.le_of_ble_eq_true rfl)) (fun w77 H locs q78 hP => ?_)
            obtain ⟨rfl, ok80⟩ := q78
            refine lv_aload_n hx hb dX4_link_102 rfl (lv_at hl 1 rfl) ?_
            refine kl_get (C := RX4) (T := TX4) (N := 16) (ci := 4) hx hb hts hinX4 hown hK hP k0 rfl 2 (by decide) (hts (.fieldLink RX4 19 "KinLedger" "links" "[LKinLedger$Link;") (by decide +kernel)) (fun _ h9 => h9) rfl dX4_link_103 ?_
            refine lv_aload_n hx hb dX4_link_106 rfl (lv_at hl 1 rfl) ?_
            refine kl_get (C := RX4) (T := TX4) (N := 16) (ci := 4) hx hb hts hinX4 hown hK hP k0 rfl 3 (by decide) (hts (.fieldLink RX4 23 "KinLedger" "linkCount" "I") (by decide +kernel)) (fun _ h9 => h9) rfl dX4_link_107 ?_
            refine lv_aload hx hb dX4_link_110 (lv_at hl 0 rfl) ?_
            refine kl_aast hx hb hK hP 3 1 (k0 := 3) (r := (RX1, TX1, 4)) k2 rfl f71 rfl (by omega) (by omega) dX4_link_112 (fun w81 H locs f82 fr83 hzw81 hP => ?_)
            have k0 : w81 0 = some (.inr (4, [.ref (B + 1), .int (nI nT), .ref (B + 2), .int (nI nL), .ref (B + 3), .int (nI nS), .ref (B + 4), .int (nI nC), .ref (B + 5), .int (nI nW), .ref (B + 6), .ref (B + 9), .ref (B + 12), .int (nI nM), .ref (B + 13), .int rs])) := (fr83 _ (by decide)).trans k0
            have k1 : w81 1 = some (kl_aI G 4 ((fun t => nI (cn t)))) := (fr83 _ (by decide)).trans k1
            have k6 : w81 6 = some (.inr (2, [.ref (B + 7), .ref (B + 8)])) := (fr83 _ (by decide)).trans k6
            have k7 : w81 7 = some (kl_aI G 24 T) := (fr83 _ (by decide)).trans k7
            have k8 : w81 8 = some (kl_aI G 96 C) := (fr83 _ (by decide)).trans k8
            have k47 : w81 47 = some (kl_aL G 1 ol) := (fr83 _ (by decide)).trans k47
            have f71 : w81 q = some (.inr (1, [.int (nI jj), .int (nI co), .int pa, .int wy])) := (fr83 _ (by omega)).trans f71
            have frm : ∀ (j : Nat) (e : va_E), w j = some e → j ≠ 0 → j ≠ 2 → w81 j = some e := fun j e hj k0 k1 => (fr83 j k1).trans (frm j e hj k0 k1)
            refine lv_aload_n hx hb dX4_link_113 rfl (lv_at hl 1 rfl) ?_
            refine lv_dup hx hb dX4_link_114 rfl ?_
            refine kl_get (C := RX4) (T := TX4) (N := 16) (ci := 4) hx hb hts hinX4 hown hK hP k0 rfl 3 (by decide) (hts (.fieldLink RX4 23 "KinLedger" "linkCount" "I") (by decide +kernel)) (fun _ h9 => h9) rfl dX4_link_115 ?_
            refine lv_iconst (v := nI 1) hx hb dX4_link_118 (by decide) ?_
            refine lv_iadd hx hb dX4_link_119 ?_
            refine kl_top (z := nI (nL + 1)) (by first | exact nI_add _ _ | (rw [nI_add]; first | rfl | (congr 1; omega))) ?_
            refine kl_put (C := RX4) (T := TX4) (N := 16) (ci := 4) (v := .int (nI (nL + 1))) (ty := .int) hx hb hts hinX4 tyX4 tyX4_ok nmX4 hown hK hP k0 rfl 3 (by decide) (hts (.fieldLink RX4 23 "KinLedger" "linkCount" "I") (by decide +kernel)) (fun _ h9 => h9) rfl (by decide +kernel) rfl rfl (Nat.le_of_ble_eq_true rfl) dX4_link_120 (fun w84 H locs f85 fr86 hzw84 hP => ?_)
            have f85 : w84 0 = some (.inr (4, [.ref (B + 1), .int (nI nT), .ref (B + 2), .int (nI (nL + 1)), .ref (B + 3), .int (nI nS), .ref (B + 4), .int (nI nC), .ref (B + 5), .int (nI nW), .ref (B + 6), .ref (B + 9), .ref (B + 12), .int (nI nM), .ref (B + 13), .int rs])) := f85
            have k1 : w84 1 = some (kl_aI G 4 ((fun t => nI (cn t)))) := (fr86 _ (by decide)).trans k1
            have f82 : w84 2 = some (kl_aR G 3 6 (va_up lf nL (some (B + q)))) := (fr86 _ (by decide)).trans f82
            have k6 : w84 6 = some (.inr (2, [.ref (B + 7), .ref (B + 8)])) := (fr86 _ (by decide)).trans k6
            have k7 : w84 7 = some (kl_aI G 24 T) := (fr86 _ (by decide)).trans k7
            have k8 : w84 8 = some (kl_aI G 96 C) := (fr86 _ (by decide)).trans k8
            have k47 : w84 47 = some (kl_aL G 1 ol) := (fr86 _ (by decide)).trans k47
            have f71 : w84 q = some (.inr (1, [.int (nI jj), .int (nI co), .int pa, .int wy])) := (fr86 _ (by omega)).trans f71
            have frm : ∀ (j : Nat) (e : va_E), w j = some e → j ≠ 0 → j ≠ 2 → w84 j = some e := fun j e hj k0 k1 => (fr86 j k0).trans (frm j e hj k0 k1)
            refine lv_aload_n hx hb dX4_link_123 rfl (lv_at hl 1 rfl) ?_
            refine kl_get (C := RX4) (T := TX4) (N := 16) (ci := 4) hx hb hts hinX4 hown hK hP f85 rfl 3 (by decide) (hts (.fieldLink RX4 23 "KinLedger" "linkCount" "I") (by decide +kernel)) (fun _ h9 => h9) rfl dX4_link_124 ?_
            refine lv_iconst (v := nI 1) hx hb dX4_link_127 (by decide) ?_
            refine lv_isub hx hb dX4_link_128 ?_
            refine kl_top (z := nI nL) (by first | exact pk_sub (by omega) | (rw [pk_sub (by omega)]; congr 1; omega)) ?_
            refine W.widen (k := 5) (n := 28) (by omega) (by omega) ?_
            refine vx_ret ?_
            exact kl_iret hx hb hr hlocks hP ⟨hok, by omega, rfl, co, q, rfl, hco0, by omega, ok80, by omega, fun j e hj => by have := hold j e hj; omega, f71, f82, f85, frm⟩ dX4_link_129
        · refine lv_iload hx hb dX4_link_36 (lv_at hl 4 rfl) ?_
          refine lv_iconst (v := nI 2) hx hb dX4_link_38 (by decide) ?_
          refine lv_icmp_ne (tgt := 46) hx hb dX4_link_39 (by decide) (fun c39 => ?_) (fun c39 => ?_)
          · refine lv_iconst (v := nI 0) hx hb dX4_link_46 (by decide) ?_
            refine klx_cSv (As := [.int (nI 0)]) (rest := []) ⟨hx, hb, hml, hown, hts⟩ (c_X4_needArgument l hst G B _ (nI 0) (kl_b.f (P := False) not_false)) (va_cwS 1 hts gX4_link_X4_needArgument rfl rfl rfl (by decide +kernel) ⟨Nat.le_of_ble_eq_true rfl, Nat.le_of_ble_eq_true rfl⟩) hK hZ hP rfl hl.1 rfl (Nat.le_of_ble_eq_true rfl) dX4_link_47 ⟨Nat.le_of_ble_eq_true rfl, Nat.le_of_ble_eq_true rfl⟩ (fun E ce q9 w9 H locs hpx hP h9 hv9 hc9 => kl_out hout hlocks hP (Or.inl ⟨hpx.1, hpx.2.1.symm, fun z => z.2.2.elim c27 (fun z => z.elim c33 c39)⟩) h9 hv9 hc9 (Nat.le_of_ble_eq_true rfl) (Nat.le_of_ble_eq_true rfl)) (fun w87 H locs q88 hP => ?_)
            exact (q88.2).elim
          · refine lv_iconst (v := nI 1) hx hb dX4_link_42 (by decide) ?_
            refine lv_goto (tgt := 47) hx hb dX4_link_43 (by decide) ?_
            refine klx_cSv (As := [.int (nI 1)]) (rest := []) ⟨hx, hb, hml, hown, hts⟩ (c_X4_needArgument l hst G B _ (nI 1) (kl_b.t (P := True) trivial)) (va_cwS 1 hts gX4_link_X4_needArgument rfl rfl rfl (by decide +kernel) ⟨Nat.le_of_ble_eq_true rfl, Nat.le_of_ble_eq_true rfl⟩) hK hZ hP rfl hl.1 rfl (Nat.le_of_ble_eq_true rfl) dX4_link_47 ⟨Nat.le_of_ble_eq_true rfl, Nat.le_of_ble_eq_true rfl⟩ (fun _ _ _ _ _ _ hpx _ _ _ _ => (hpx.2.2 trivial).elim) (fun w90 H locs q91 hP => ?_)
            obtain ⟨rfl, ok93⟩ := q91
            have hok : mt_lkok ch cc pa wy nT cn := ⟨hk1.1, hk1.2, Or.inr (Or.inr c39)⟩
            refine lv_aload_n hx hb dX4_link_50 rfl (lv_at hl 0 rfl) ?_
            refine kl_get (C := RX4) (T := TX4) (N := 16) (ci := 4) hx hb hts hinX4 hown hK hP k0 rfl 3 (by decide) (hts (.fieldLink RX4 23 "KinLedger" "linkCount" "I") (by decide +kernel)) (fun _ h9 => h9) rfl dX4_link_51 ?_
            refine lv_bipush (v := nI 6) hx hb dX4_link_54 (by decide) ?_
            refine kl_ge (tgt := 63) hx hb (by omega) (by omega) dX4_link_56 (by decide) (fun c56 => ?_) (fun c56 => ?_)
            · refine lv_iconst (v := nI 0) hx hb dX4_link_63 (by decide) ?_
              refine klx_cSv (As := [.int (nI 0)]) (rest := []) ⟨hx, hb, hml, hown, hts⟩ (c_X4_needElement l hst G B _ (nI 0) (kl_b.f (P := False) not_false)) (va_cwS 1 hts gX4_link_X4_needElement rfl rfl rfl (by decide +kernel) ⟨Nat.le_of_ble_eq_true rfl, Nat.le_of_ble_eq_true rfl⟩) hK hZ hP rfl hl.1 rfl (Nat.le_of_ble_eq_true rfl) dX4_link_64 ⟨Nat.le_of_ble_eq_true rfl, Nat.le_of_ble_eq_true rfl⟩ (fun E ce q9 w9 H locs hpx hP h9 hv9 hc9 => kl_out hout hlocks hP (Or.inr (Or.inl ⟨hpx.1, hpx.2.1.symm, hok, by omega⟩)) h9 hv9 hc9 (Nat.le_of_ble_eq_true rfl) (Nat.le_of_ble_eq_true rfl)) (fun w94 H locs q95 hP => ?_)
              exact (q95.2).elim
            · refine lv_iconst (v := nI 1) hx hb dX4_link_59 (by decide) ?_
              refine lv_goto (tgt := 64) hx hb dX4_link_60 (by decide) ?_
              refine klx_cSv (As := [.int (nI 1)]) (rest := []) ⟨hx, hb, hml, hown, hts⟩ (c_X4_needElement l hst G B _ (nI 1) (kl_b.t (P := True) trivial)) (va_cwS 1 hts gX4_link_X4_needElement rfl rfl rfl (by decide +kernel) ⟨Nat.le_of_ble_eq_true rfl, Nat.le_of_ble_eq_true rfl⟩) hK hZ hP rfl hl.1 rfl (Nat.le_of_ble_eq_true rfl) dX4_link_64 ⟨Nat.le_of_ble_eq_true rfl, Nat.le_of_ble_eq_true rfl⟩ (fun _ _ _ _ _ _ hpx _ _ _ _ => (hpx.2.2 trivial).elim) (fun w97 H locs q98 hP => ?_)
              obtain ⟨rfl, ok100⟩ := q98
              obtain ⟨jj, co, hjj, rfl, hco4, rfl⟩ := hk1.1.1
              have hco5 := hcn4 jj hjj
              have hco0 : 0 < co := Nat.pos_of_ne_zero (fun z => hk1.1.2 (by rw [z]; rfl))
              have hle := hP.2.1.1
              have lk47 := hP.lt k47
              refine kl_new (ci := 1) (fs := [.int 0, .int 0, .int 0, .int 0]) (C := RX1) (T := TX1) (N := 4) hx hb hts hinX1 tyX1 tyX1_ok hown (hts (.classLink RX4 17 RX1) (by decide +kernel)) (hts (.instantiable RX1 4) (by decide +kernel)) (hts (.initialized RX1) (by decide +kernel)) hK hP rfl (fun j hj => by rcases (show j = 0 ∨ j = 1 ∨ j = 2 ∨ j = 3 by omega) with rfl | rfl | rfl | rfl <;> rfl) (Nat.le_of_ble_eq_true rfl) (Nat.le_of_ble_eq_true rfl) dX4_link_67 (fun q w101 H hq104 f102 fr103 hzw101 hP => ?_)
              have hgeq : s.heap.size ≤ B + q := by omega
              have f102 : w101 q = some (.inr (1, [.int (nI 0), .int (nI 0), .int (nI 0), .int (nI 0)])) := f102
              have k0 : w101 0 = some (.inr (4, [.ref (B + 1), .int (nI nT), .ref (B + 2), .int (nI nL), .ref (B + 3), .int (nI nS), .ref (B + 4), .int (nI nC), .ref (B + 5), .int (nI nW), .ref (B + 6), .ref (B + 9), .ref (B + 12), .int (nI nM), .ref (B + 13), .int rs])) := (fr103 _ (by omega)).trans k0
              have k1 : w101 1 = some (kl_aI G 4 ((fun t => nI (cn t)))) := (fr103 _ (by omega)).trans k1
              have k2 : w101 2 = some (kl_aR G 3 6 lf) := (fr103 _ (by omega)).trans k2
              have k6 : w101 6 = some (.inr (2, [.ref (B + 7), .ref (B + 8)])) := (fr103 _ (by omega)).trans k6
              have k7 : w101 7 = some (kl_aI G 24 T) := (fr103 _ (by omega)).trans k7
              have k8 : w101 8 = some (kl_aI G 96 C) := (fr103 _ (by omega)).trans k8
              have k47 : w101 47 = some (kl_aL G 1 ol) := (fr103 _ (by omega)).trans k47
              have frm : ∀ (j : Nat) (e : va_E), w j = some e → j ≠ 0 → j ≠ 2 → w101 j = some e := fun j e hj k0 k1 => (fr103 j (by have := hold j e hj; omega)).trans (frm j e hj k0 k1)
              refine lv_dup hx hb dX4_link_70 rfl ?_
              refine lv_iload_n hx hb dX4_link_71 rfl (lv_at hl 1 rfl) ?_
              refine lv_iload_n hx hb dX4_link_72 rfl (lv_at hl 2 rfl) ?_
              refine lv_iload_n hx hb dX4_link_73 rfl (lv_at hl 3 rfl) ?_
              refine lv_iload hx hb dX4_link_74 (lv_at hl 4 rfl) ?_
              refine kl_cIz (i := q) (As := [.int (nI jj), .int (nI co), .int pa, .int wy]) (rest := [.ref (B + q)]) ⟨hx, hb, hml, hown, hts⟩ (c_X1_init l G B _ q _ (nI jj) co pa wy f102) (cwI 4 hts gX4_link_X1_init rfl rfl rfl (hts (.initialized RX1) (by decide +kernel)) (hts (.methodLink RX4 89 yX1_init) (by decide +kernel)) (hts (.instanceMethod yX1_init) (by decide +kernel)) rfl (by decide +kernel) ⟨Nat.le_of_ble_eq_true rfl, Nat.le_of_ble_eq_true rfl⟩) (by first | omega | rfl) hK hP rfl hl.1 rfl (Nat.le_of_ble_eq_true rfl) dX4_link_76 ⟨Nat.le_of_ble_eq_true rfl, Nat.le_of_ble_eq_true rfl⟩ (fun w105 H locs q106 hzw105 hP => ?_)
              obtain ⟨f108, fr109⟩ := q106
              have f108 : w105 q = some (.inr (1, [.int (nI jj), .int (nI co), .int pa, .int wy])) := f108
              have k0 : w105 0 = some (.inr (4, [.ref (B + 1), .int (nI nT), .ref (B + 2), .int (nI nL), .ref (B + 3), .int (nI nS), .ref (B + 4), .int (nI nC), .ref (B + 5), .int (nI nW), .ref (B + 6), .ref (B + 9), .ref (B + 12), .int (nI nM), .ref (B + 13), .int rs])) := (fr109 _ (by omega)).trans k0
              have k1 : w105 1 = some (kl_aI G 4 ((fun t => nI (cn t)))) := (fr109 _ (by omega)).trans k1
              have k2 : w105 2 = some (kl_aR G 3 6 lf) := (fr109 _ (by omega)).trans k2
              have k6 : w105 6 = some (.inr (2, [.ref (B + 7), .ref (B + 8)])) := (fr109 _ (by omega)).trans k6
              have k7 : w105 7 = some (kl_aI G 24 T) := (fr109 _ (by omega)).trans k7
              have k8 : w105 8 = some (kl_aI G 96 C) := (fr109 _ (by omega)).trans k8
              have k47 : w105 47 = some (kl_aL G 1 ol) := (fr109 _ (by omega)).trans k47
              have frm : ∀ (j : Nat) (e : va_E), w j = some e → j ≠ 0 → j ≠ 2 → w105 j = some e := fun j e hj k0 k1 => (fr109 j (by have := hold j e hj; omega)).trans (frm j e hj k0 k1)
              refine lv_astore (lv' := [(5, .ref (B + q)), (0, .ref (B + 0)), (1, .int (nI jj)), (2, .int (nI co)), (3, .int pa), (4, .int wy)]) hx hb dX4_link_79 hl (by decide) rfl (fun ls hl => ?_)
              refine lv_aload_n hx hb dX4_link_81 rfl (lv_at hl 1 rfl) ?_
              refine lv_aload hx hb dX4_link_82 (lv_at hl 0 rfl) ?_
              refine lv_aload_n hx hb dX4_link_84 rfl (lv_at hl 1 rfl) ?_
              refine kl_get (C := RX4) (T := TX4) (N := 16) (ci := 4) hx hb hts hinX4 hown hK hP k0 rfl 10 (by decide) (hts (.fieldLink RX4 53 "KinLedger" "rows" "LKinLedger$Rows;") (by decide +kernel)) (fun _ h9 => h9) rfl dX4_link_85 ?_
              refine kl_cVi (C := RX1) (i := q) (As := [.ref (B + 6)]) (rest := [.ref (B + 0)]) ⟨hx, hb, hml, hown, hts⟩ (c_X1_isBroken l G B _ 6 7 8 q  f108 k6 k7 k8 (by omega)) (cwV 1 hts gX4_link_X1_isBroken rfl rfl rfl (by decide +kernel) ⟨Nat.le_of_ble_eq_true rfl, Nat.le_of_ble_eq_true rfl⟩) hK hP f108 rfl rfl hl.1 rfl (Nat.le_of_ble_eq_true rfl) dX4_link_88 ⟨Nat.le_of_ble_eq_true rfl, Nat.le_of_ble_eq_true rfl⟩ (fun r112 w110 H locs q111 hP => ?_)
              obtain ⟨rfl, hv113⟩ := q111
              refine lv_sipush (v := nI 400) hx hb dX4_link_91 (by decide) ?_
              refine lv_aload_n hx hb dX4_link_94 rfl (lv_at hl 1 rfl) ?_
              refine kl_get (C := RX4) (T := TX4) (N := 16) (ci := 4) hx hb hts hinX4 hown hK hP k0 rfl 3 (by decide) (hts (.fieldLink RX4 23 "KinLedger" "linkCount" "I") (by decide +kernel)) (fun _ h9 => h9) rfl dX4_link_95 ?_
              refine lv_iadd hx hb dX4_link_98 ?_
              refine kl_top (z := nI (400 + nL)) (by first | exact nI_add _ _ | (rw [nI_add]; first | rfl | (congr 1; omega))) ?_
              refine klx_cVv (C := RX4) (i := 0) (As := [.int r112, .int (nI (400 + nL))]) (rest := []) ⟨hx, hb, hml, hown, hts⟩ (c_X4_refuseIf l hst G B _ r112 (nI (400 + nL)) k0 hv113) (cwV 2 hts gX4_link_X4_refuseIf rfl rfl rfl (by decide +kernel) ⟨Nat.le_of_ble_eq_true rfl, Nat.le_of_ble_eq_true rfl⟩) hK hZ hP k0 rfl rfl hl.1 rfl (Nat.le_of_ble_eq_true rfl) dX4_link_99 ⟨Nat.le_of_ble_eq_true rfl, Nat.le_of_ble_eq_true rfl⟩ (fun E ce q9 w9 H locs hpx hP h9 hv9 hc9 => kl_out hout hlocks hP (by obtain ⟨hE, hbk, h09, hfr9⟩ := hpx; exact Or.inr (Or.inr ⟨hE, hok, by omega, co, rfl, by omega, hbk, h09, (hfr9 2 (by decide)).trans k2, fun j e hj k0 k1 => (hfr9 j k0).trans (frm j e hj k0 k1)⟩)) h9 hv9 hc9 (Nat.le_of_ble_eq_true rfl) (Nat.le_of_ble_eq_true rfl)) (fun w114 H locs q115 hP => ?_)
              obtain ⟨rfl, ok117⟩ := q115
              refine lv_aload_n hx hb dX4_link_102 rfl (lv_at hl 1 rfl) ?_
              refine kl_get (C := RX4) (T := TX4) (N := 16) (ci := 4) hx hb hts hinX4 hown hK hP k0 rfl 2 (by decide) (hts (.fieldLink RX4 19 "KinLedger" "links" "[LKinLedger$Link;") (by decide +kernel)) (fun _ h9 => h9) rfl dX4_link_103 ?_
              refine lv_aload_n hx hb dX4_link_106 rfl (lv_at hl 1 rfl) ?_
              refine kl_get (C := RX4) (T := TX4) (N := 16) (ci := 4) hx hb hts hinX4 hown hK hP k0 rfl 3 (by decide) (hts (.fieldLink RX4 23 "KinLedger" "linkCount" "I") (by decide +kernel)) (fun _ h9 => h9) rfl dX4_link_107 ?_
              refine lv_aload hx hb dX4_link_110 (lv_at hl 0 rfl) ?_
              refine kl_aast hx hb hK hP 3 1 (k0 := 3) (r := (RX1, TX1, 4)) k2 rfl f108 rfl (by omega) (by omega) dX4_link_112 (fun w118 H locs f119 fr120 hzw118 hP => ?_)
              have k0 : w118 0 = some (.inr (4, [.ref (B + 1), .int (nI nT), .ref (B + 2), .int (nI nL), .ref (B + 3), .int (nI nS), .ref (B + 4), .int (nI nC), .ref (B + 5), .int (nI nW), .ref (B + 6), .ref (B + 9), .ref (B + 12), .int (nI nM), .ref (B + 13), .int rs])) := (fr120 _ (by decide)).trans k0
              have k1 : w118 1 = some (kl_aI G 4 ((fun t => nI (cn t)))) := (fr120 _ (by decide)).trans k1
              have k6 : w118 6 = some (.inr (2, [.ref (B + 7), .ref (B + 8)])) := (fr120 _ (by decide)).trans k6
              have k7 : w118 7 = some (kl_aI G 24 T) := (fr120 _ (by decide)).trans k7
              have k8 : w118 8 = some (kl_aI G 96 C) := (fr120 _ (by decide)).trans k8
              have k47 : w118 47 = some (kl_aL G 1 ol) := (fr120 _ (by decide)).trans k47
              have f108 : w118 q = some (.inr (1, [.int (nI jj), .int (nI co), .int pa, .int wy])) := (fr120 _ (by omega)).trans f108
              have frm : ∀ (j : Nat) (e : va_E), w j = some e → j ≠ 0 → j ≠ 2 → w118 j = some e := fun j e hj k0 k1 => (fr120 j k1).trans (frm j e hj k0 k1)
              refine lv_aload_n hx hb dX4_link_113 rfl (lv_at hl 1 rfl) ?_
              refine lv_dup hx hb dX4_link_114 rfl ?_
              refine kl_get (C := RX4) (T := TX4) (N := 16) (ci := 4) hx hb hts hinX4 hown hK hP k0 rfl 3 (by decide) (hts (.fieldLink RX4 23 "KinLedger" "linkCount" "I") (by decide +kernel)) (fun _ h9 => h9) rfl dX4_link_115 ?_
              refine lv_iconst (v := nI 1) hx hb dX4_link_118 (by decide) ?_
              refine lv_iadd hx hb dX4_link_119 ?_
              refine kl_top (z := nI (nL + 1)) (by first | exact nI_add _ _ | (rw [nI_add]; first | rfl | (congr 1; omega))) ?_
              refine kl_put (C := RX4) (T := TX4) (N := 16) (ci := 4) (v := .int (nI (nL + 1))) (ty := .int) hx hb hts hinX4 tyX4 tyX4_ok nmX4 hown hK hP k0 rfl 3 (by decide) (hts (.fieldLink RX4 23 "KinLedger" "linkCount" "I") (by decide +kernel)) (fun _ h9 => h9) rfl (by decide +kernel) rfl rfl (Nat.le_of_ble_eq_true rfl) dX4_link_120 (fun w121 H locs f122 fr123 hzw121 hP => ?_)
              have f122 : w121 0 = some (.inr (4, [.ref (B + 1), .int (nI nT), .ref (B + 2), .int (nI (nL + 1)), .ref (B + 3), .int (nI nS), .ref (B + 4), .int (nI nC), .ref (B + 5), .int (nI nW), .ref (B + 6), .ref (B + 9), .ref (B + 12), .int (nI nM), .ref (B + 13), .int rs])) := f122
              have k1 : w121 1 = some (kl_aI G 4 ((fun t => nI (cn t)))) := (fr123 _ (by decide)).trans k1
              have f119 : w121 2 = some (kl_aR G 3 6 (va_up lf nL (some (B + q)))) := (fr123 _ (by decide)).trans f119
              have k6 : w121 6 = some (.inr (2, [.ref (B + 7), .ref (B + 8)])) := (fr123 _ (by decide)).trans k6
              have k7 : w121 7 = some (kl_aI G 24 T) := (fr123 _ (by decide)).trans k7
              have k8 : w121 8 = some (kl_aI G 96 C) := (fr123 _ (by decide)).trans k8
              have k47 : w121 47 = some (kl_aL G 1 ol) := (fr123 _ (by decide)).trans k47
              have f108 : w121 q = some (.inr (1, [.int (nI jj), .int (nI co), .int pa, .int wy])) := (fr123 _ (by omega)).trans f108
              have frm : ∀ (j : Nat) (e : va_E), w j = some e → j ≠ 0 → j ≠ 2 → w121 j = some e := fun j e hj k0 k1 => (fr123 j k0).trans (frm j e hj k0 k1)
              refine lv_aload_n hx hb dX4_link_123 rfl (lv_at hl 1 rfl) ?_
              refine kl_get (C := RX4) (T := TX4) (N := 16) (ci := 4) hx hb hts hinX4 hown hK hP f122 rfl 3 (by decide) (hts (.fieldLink RX4 23 "KinLedger" "linkCount" "I") (by decide +kernel)) (fun _ h9 => h9) rfl dX4_link_124 ?_
              refine lv_iconst (v := nI 1) hx hb dX4_link_127 (by decide) ?_
              refine lv_isub hx hb dX4_link_128 ?_
              refine kl_top (z := nI nL) (by first | exact pk_sub (by omega) | (rw [pk_sub (by omega)]; congr 1; omega)) ?_
              refine W.widen (k := 5) (n := 28) (by omega) (by omega) ?_
              refine vx_ret ?_
              exact kl_iret hx hb hr hlocks hP ⟨hok, by omega, rfl, co, q, rfl, hco0, by omega, ok117, by omega, fun j e hj => by have := hold j e hj; omega, f108, f119, f122, frm⟩ dX4_link_129

abbrev rm_X4_single : Room := { frames := 7, cells := 4, slots := 20, locals := 112 }
set_option maxHeartbeats 4000000 in
set_option maxRecDepth 100000 in
theorem c_X4_single (l : Launch) (hst : l.stackTraces = false) (G : kl_G) (B : Nat) (w : kl_M) {nT nW nM : Nat} {rs : Int32} {nL nS nC : Nat} {cn : Nat → Nat} {T C : Nat → Int32} {sf : Nat → Option Nat} {ol : Nat → Int64} (tb cc : Int32) (k0 : w 0 = some (.inr (4, [.ref (B + 1), .int (nI nT), .ref (B + 2), .int (nI nL), .ref (B + 3), .int (nI nS), .ref (B + 4), .int (nI nC), .ref (B + 5), .int (nI nW), .ref (B + 6), .ref (B + 9), .ref (B + 12), .int (nI nM), .ref (B + 13), .int rs]))) (k1 : w 1 = some (kl_aI G 4 ((fun t => nI (cn t))))) (k3 : w 3 = some (kl_aR G 4 4 sf)) (k6 : w 6 = some (.inr (2, [.ref (B + 7), .ref (B + 8)]))) (k7 : w 7 = some (kl_aI G 24 T)) (k8 : w 8 = some (kl_aI G 96 C)) (k47 : w 47 = some (kl_aL G 1 ol)) (hn : nT ≤ 4) (hnS : nS ≤ 4) (hcn4 : ∀ j, j < nT → cn j ≤ 4) : vx_Met l yX4_single wsX4_single rm_X4_single (kl_Px G B w [.ref (B + 0), .int tb, .int cc]) (kl_Qi G B (fun r w1 => (mt_col tb cc nT cn ∧ cc ≠ 0) ∧ nS < 4 ∧ r = nI nS ∧ ∃ co q, cc = nI co ∧ 0 < co ∧ co < 4 ∧ ¬ mt_twin T C tb co ∧ 48 ≤ q ∧ (∀ (j : Nat) (e : va_E), w j = some e → j < q) ∧ w1 q = some (.inr (3, [.int tb, .int (nI co)])) ∧ w1 3 = some (kl_aR G 4 4 (va_up sf nS (some (B + q)))) ∧ w1 0 = some (.inr (4, [.ref (B + 1), .int (nI nT), .ref (B + 2), .int (nI nL), .ref (B + 3), .int (nI (nS + 1)), .ref (B + 4), .int (nI nC), .ref (B + 5), .int (nI nW), .ref (B + 6), .ref (B + 9), .ref (B + 12), .int (nI nM), .ref (B + 13), .int rs])) ∧ ∀ (j : Nat) (e : va_E), w j = some e → j ≠ 0 → j ≠ 3 → w1 j = some e)) (kl_X G B (fun E w1 => (E = "java/lang/IllegalArgumentException" ∧ w1 = w ∧ ¬ (mt_col tb cc nT cn ∧ cc ≠ 0)) ∨ (E = "java/util/NoSuchElementException" ∧ w1 = w ∧ (mt_col tb cc nT cn ∧ cc ≠ 0) ∧ ¬ nS < 4) ∨ (E = "java/lang/IllegalStateException" ∧ (mt_col tb cc nT cn ∧ cc ≠ 0) ∧ nS < 4 ∧ ∃ co, cc = nI co ∧ co < 4 ∧ mt_twin T C tb co ∧ w1 0 = some (.inr (4, [.ref (B + 1), .int (nI nT), .ref (B + 2), .int (nI nL), .ref (B + 3), .int (nI nS), .ref (B + 4), .int (nI nC), .ref (B + 5), .int (nI nW), .ref (B + 6), .ref (B + 9), .ref (B + 12), .int (nI nM), .ref (B + 13), .int ((nI (300 + nS)))])) ∧ w1 3 = some (kl_aR G 4 4 sf) ∧ ∀ (j : Nat) (e : va_E), w j = some e → j ≠ 0 → j ≠ 3 → w1 j = some e))) 4 20 (kl_fr B) := by
  refine vx_ofW (cc := cX4_single) (maxL := 4) (ret := (some .int)) (by decide) rfl ?_
  intro pg e s m args below meth cd s₁ Bd hml hout hv
  obtain ⟨rfl, hP0, hK, hZ⟩ := hv
  have hx := Bd.exec
  have hb := Bd.bytes
  have hr := Bd.returns
  have hts := atoms_spec (ws := wsX4_single) Bd.pre
  have hown : s.vm.findClass RX4 = some m.cls := findClass_of_methodNamed Bd.named
  have hlocks := Bd.notSynchronized
  have hinX3 : ∀ w ∈ u_ws RX3 TX3 2, w ∈ wsX4_single := by decide +kernel
  have hinX4 : ∀ w ∈ u_ws RX4 TX4 16, w ∈ wsX4_single := by decide +kernel
  have hP := kl_S.rf hP0
  have hl := lv_entry ([.ref (B + 0), .int tb, .int cc]) (n := 4) (Nat.le_of_ble_eq_true rfl)
  rw [lg_entry_eq]
  generalize (lg_sl ([.ref (B + 0), .int tb, .int cc]) ++ List.replicate (4 - (lg_sl ([.ref (B + 0), .int tb, .int cc])).length) Slot.unset).toArray = ls at hl ⊢
  have hl : lv_has ls 4 [(0, .ref (B + 0)), (1, .int tb), (2, .int cc)] := hl
  have frm : ∀ (j : Nat) (e : va_E), w j = some e → j ≠ 0 → j ≠ 3 → w j = some e := fun j e hj _ _ => hj
  have hold : ∀ (j : Nat) (e : va_E), w j = some e → B + j < s.heap.size := fun j e h => hP.lt h
  refine lv_aload_n hx hb dX4_single_0 rfl (lv_at hl 0 rfl) ?_
  refine lv_iload_n hx hb dX4_single_1 rfl (lv_at hl 1 rfl) ?_
  refine lv_iload_n hx hb dX4_single_2 rfl (lv_at hl 2 rfl) ?_
  refine kl_cVi (C := RX4) (i := 0) (As := [.int tb, .int cc]) (rest := []) ⟨hx, hb, hml, hown, hts⟩ (c_X4_isCellColumn l G B _ tb cc k0 k1 (by omega) hcn4) (cwV 2 hts gX4_single_X4_isCellColumn rfl rfl rfl (by decide +kernel) ⟨Nat.le_of_ble_eq_true rfl, Nat.le_of_ble_eq_true rfl⟩) hK hP k0 rfl rfl hl.1 rfl (Nat.le_of_ble_eq_true rfl) dX4_single_3 ⟨Nat.le_of_ble_eq_true rfl, Nat.le_of_ble_eq_true rfl⟩ (fun r3 w1 H locs q2 hP => ?_)
  obtain ⟨rfl, hv4⟩ := q2
  refine klx_cSv (As := [.int r3]) (rest := []) ⟨hx, hb, hml, hown, hts⟩ (c_X4_needArgument l hst G B _ r3 hv4) (va_cwS 1 hts gX4_single_X4_needArgument rfl rfl rfl (by decide +kernel) ⟨Nat.le_of_ble_eq_true rfl, Nat.le_of_ble_eq_true rfl⟩) hK hZ hP rfl hl.1 rfl (Nat.le_of_ble_eq_true rfl) dX4_single_6 ⟨Nat.le_of_ble_eq_true rfl, Nat.le_of_ble_eq_true rfl⟩ (fun E ce q9 w9 H locs hpx hP h9 hv9 hc9 => kl_out hout hlocks hP (Or.inl ⟨hpx.1, hpx.2.1.symm, hpx.2.2⟩) h9 hv9 hc9 (Nat.le_of_ble_eq_true rfl) (Nat.le_of_ble_eq_true rfl)) (fun w5 H locs q6 hP => ?_)
  obtain ⟨rfl, ok8⟩ := q6
  refine lv_aload_n hx hb dX4_single_9 rfl (lv_at hl 0 rfl) ?_
  refine kl_get (C := RX4) (T := TX4) (N := 16) (ci := 4) hx hb hts hinX4 hown hK hP k0 rfl 5 (by decide) (hts (.fieldLink RX4 32 "KinLedger" "singleCount" "I") (by decide +kernel)) (fun _ h9 => h9) rfl dX4_single_10 ?_
  refine lv_iconst (v := nI 4) hx hb dX4_single_13 (by decide) ?_
  refine kl_ge (tgt := 21) hx hb (by omega) (by omega) dX4_single_14 (by decide) (fun c14 => ?_) (fun c14 => ?_)
  · refine lv_iconst (v := nI 0) hx hb dX4_single_21 (by decide) ?_
    refine klx_cSv (As := [.int (nI 0)]) (rest := []) ⟨hx, hb, hml, hown, hts⟩ (c_X4_needElement l hst G B _ (nI 0) (kl_b.f (P := False) not_false)) (va_cwS 1 hts gX4_single_X4_needElement rfl rfl rfl (by decide +kernel) ⟨Nat.le_of_ble_eq_true rfl, Nat.le_of_ble_eq_true rfl⟩) hK hZ hP rfl hl.1 rfl (Nat.le_of_ble_eq_true rfl) dX4_single_22 ⟨Nat.le_of_ble_eq_true rfl, Nat.le_of_ble_eq_true rfl⟩ (fun E ce q9 w9 H locs hpx hP h9 hv9 hc9 => kl_out hout hlocks hP (Or.inr (Or.inl ⟨hpx.1, hpx.2.1.symm, ok8, by omega⟩)) h9 hv9 hc9 (Nat.le_of_ble_eq_true rfl) (Nat.le_of_ble_eq_true rfl)) (fun w9 H locs q10 hP => ?_)
    exact (q10.2).elim
  · refine lv_iconst (v := nI 1) hx hb dX4_single_17 (by decide) ?_
    refine lv_goto (tgt := 22) hx hb dX4_single_18 (by decide) ?_
    refine klx_cSv (As := [.int (nI 1)]) (rest := []) ⟨hx, hb, hml, hown, hts⟩ (c_X4_needElement l hst G B _ (nI 1) (kl_b.t (P := True) trivial)) (va_cwS 1 hts gX4_single_X4_needElement rfl rfl rfl (by decide +kernel) ⟨Nat.le_of_ble_eq_true rfl, Nat.le_of_ble_eq_true rfl⟩) hK hZ hP rfl hl.1 rfl (Nat.le_of_ble_eq_true rfl) dX4_single_22 ⟨Nat.le_of_ble_eq_true rfl, Nat.le_of_ble_eq_true rfl⟩ (fun _ _ _ _ _ _ hpx _ _ _ _ => (hpx.2.2 trivial).elim) (fun w12 H locs q13 hP => ?_)
    obtain ⟨rfl, ok15⟩ := q13
    have hok := ok8
    obtain ⟨⟨jj, co, hjj, rfl, hco4, rfl⟩, hcz⟩ := ok8
    have hco5 := hcn4 jj hjj
    have hco0 : 0 < co := Nat.pos_of_ne_zero (fun z => hcz (by rw [z]; rfl))
    have hle := hP.2.1.1
    have lk47 := hP.lt k47
    refine kl_new (ci := 3) (fs := [.int 0, .int 0]) (C := RX3) (T := TX3) (N := 2) hx hb hts hinX3 tyX3 tyX3_ok hown (hts (.classLink RX4 26 RX3) (by decide +kernel)) (hts (.instantiable RX3 2) (by decide +kernel)) (hts (.initialized RX3) (by decide +kernel)) hK hP rfl (fun j hj => by rcases (show j = 0 ∨ j = 1 by omega) with rfl | rfl <;> rfl) (Nat.le_of_ble_eq_true rfl) (Nat.le_of_ble_eq_true rfl) dX4_single_25 (fun q w16 H hq19 f17 fr18 hzw16 hP => ?_)
    have hgeq : s.heap.size ≤ B + q := by omega
    have f17 : w16 q = some (.inr (3, [.int (nI 0), .int (nI 0)])) := f17
    have k0 : w16 0 = some (.inr (4, [.ref (B + 1), .int (nI nT), .ref (B + 2), .int (nI nL), .ref (B + 3), .int (nI nS), .ref (B + 4), .int (nI nC), .ref (B + 5), .int (nI nW), .ref (B + 6), .ref (B + 9), .ref (B + 12), .int (nI nM), .ref (B + 13), .int rs])) := (fr18 _ (by omega)).trans k0
    have k1 : w16 1 = some (kl_aI G 4 ((fun t => nI (cn t)))) := (fr18 _ (by omega)).trans k1
    have k3 : w16 3 = some (kl_aR G 4 4 sf) := (fr18 _ (by omega)).trans k3
    have k6 : w16 6 = some (.inr (2, [.ref (B + 7), .ref (B + 8)])) := (fr18 _ (by omega)).trans k6
    have k7 : w16 7 = some (kl_aI G 24 T) := (fr18 _ (by omega)).trans k7
    have k8 : w16 8 = some (kl_aI G 96 C) := (fr18 _ (by omega)).trans k8
    have k47 : w16 47 = some (kl_aL G 1 ol) := (fr18 _ (by omega)).trans k47
    have frm : ∀ (j : Nat) (e : va_E), w j = some e → j ≠ 0 → j ≠ 3 → w16 j = some e := fun j e hj k0 k1 => (fr18 j (by have := hold j e hj; omega)).trans (frm j e hj k0 k1)
    refine lv_dup hx hb dX4_single_28 rfl ?_
    refine lv_iload_n hx hb dX4_single_29 rfl (lv_at hl 1 rfl) ?_
    refine lv_iload_n hx hb dX4_single_30 rfl (lv_at hl 2 rfl) ?_
    refine kl_cIz (i := q) (As := [.int (nI jj), .int (nI co)]) (rest := [.ref (B + q)]) ⟨hx, hb, hml, hown, hts⟩ (c_X3_init l G B _ q _ (nI jj) co f17) (cwI 2 hts gX4_single_X3_init rfl rfl rfl (hts (.initialized RX3) (by decide +kernel)) (hts (.methodLink RX4 100 yX3_init) (by decide +kernel)) (hts (.instanceMethod yX3_init) (by decide +kernel)) rfl (by decide +kernel) ⟨Nat.le_of_ble_eq_true rfl, Nat.le_of_ble_eq_true rfl⟩) (by first | omega | rfl) hK hP rfl hl.1 rfl (Nat.le_of_ble_eq_true rfl) dX4_single_31 ⟨Nat.le_of_ble_eq_true rfl, Nat.le_of_ble_eq_true rfl⟩ (fun w20 H locs q21 hzw20 hP => ?_)
    obtain ⟨f23, fr24⟩ := q21
    have f23 : w20 q = some (.inr (3, [.int (nI jj), .int (nI co)])) := f23
    have k0 : w20 0 = some (.inr (4, [.ref (B + 1), .int (nI nT), .ref (B + 2), .int (nI nL), .ref (B + 3), .int (nI nS), .ref (B + 4), .int (nI nC), .ref (B + 5), .int (nI nW), .ref (B + 6), .ref (B + 9), .ref (B + 12), .int (nI nM), .ref (B + 13), .int rs])) := (fr24 _ (by omega)).trans k0
    have k1 : w20 1 = some (kl_aI G 4 ((fun t => nI (cn t)))) := (fr24 _ (by omega)).trans k1
    have k3 : w20 3 = some (kl_aR G 4 4 sf) := (fr24 _ (by omega)).trans k3
    have k6 : w20 6 = some (.inr (2, [.ref (B + 7), .ref (B + 8)])) := (fr24 _ (by omega)).trans k6
    have k7 : w20 7 = some (kl_aI G 24 T) := (fr24 _ (by omega)).trans k7
    have k8 : w20 8 = some (kl_aI G 96 C) := (fr24 _ (by omega)).trans k8
    have k47 : w20 47 = some (kl_aL G 1 ol) := (fr24 _ (by omega)).trans k47
    have frm : ∀ (j : Nat) (e : va_E), w j = some e → j ≠ 0 → j ≠ 3 → w20 j = some e := fun j e hj k0 k1 => (fr24 j (by have := hold j e hj; omega)).trans (frm j e hj k0 k1)
    refine lv_astore_n (lv' := [(3, .ref (B + q)), (0, .ref (B + 0)), (1, .int (nI jj)), (2, .int (nI co))]) hx hb dX4_single_34 rfl hl (by decide) rfl (fun ls hl => ?_)
    refine lv_aload_n hx hb dX4_single_35 rfl (lv_at hl 1 rfl) ?_
    refine lv_aload_n hx hb dX4_single_36 rfl (lv_at hl 0 rfl) ?_
    refine lv_aload_n hx hb dX4_single_37 rfl (lv_at hl 1 rfl) ?_
    refine kl_get (C := RX4) (T := TX4) (N := 16) (ci := 4) hx hb hts hinX4 hown hK hP k0 rfl 10 (by decide) (hts (.fieldLink RX4 53 "KinLedger" "rows" "LKinLedger$Rows;") (by decide +kernel)) (fun _ h9 => h9) rfl dX4_single_38 ?_
    refine kl_cVi (C := RX3) (i := q) (As := [.ref (B + 6)]) (rest := [.ref (B + 0)]) ⟨hx, hb, hml, hown, hts⟩ (c_X3_isBroken l G B _ 6 7 8 q  f23 k6 k7 k8 (by omega)) (cwV 1 hts gX4_single_X3_isBroken rfl rfl rfl (by decide +kernel) ⟨Nat.le_of_ble_eq_true rfl, Nat.le_of_ble_eq_true rfl⟩) hK hP f23 rfl rfl hl.1 rfl (Nat.le_of_ble_eq_true rfl) dX4_single_41 ⟨Nat.le_of_ble_eq_true rfl, Nat.le_of_ble_eq_true rfl⟩ (fun r27 w25 H locs q26 hP => ?_)
    obtain ⟨rfl, hv28⟩ := q26
    refine lv_sipush (v := nI 300) hx hb dX4_single_44 (by decide) ?_
    refine lv_aload_n hx hb dX4_single_47 rfl (lv_at hl 1 rfl) ?_
    refine kl_get (C := RX4) (T := TX4) (N := 16) (ci := 4) hx hb hts hinX4 hown hK hP k0 rfl 5 (by decide) (hts (.fieldLink RX4 32 "KinLedger" "singleCount" "I") (by decide +kernel)) (fun _ h9 => h9) rfl dX4_single_48 ?_
    refine lv_iadd hx hb dX4_single_51 ?_
    refine kl_top (z := nI (300 + nS)) (by first | exact nI_add _ _ | (rw [nI_add]; first | rfl | (congr 1; omega))) ?_
    refine klx_cVv (C := RX4) (i := 0) (As := [.int r27, .int (nI (300 + nS))]) (rest := []) ⟨hx, hb, hml, hown, hts⟩ (c_X4_refuseIf l hst G B _ r27 (nI (300 + nS)) k0 hv28) (cwV 2 hts gX4_single_X4_refuseIf rfl rfl rfl (by decide +kernel) ⟨Nat.le_of_ble_eq_true rfl, Nat.le_of_ble_eq_true rfl⟩) hK hZ hP k0 rfl rfl hl.1 rfl (Nat.le_of_ble_eq_true rfl) dX4_single_52 ⟨Nat.le_of_ble_eq_true rfl, Nat.le_of_ble_eq_true rfl⟩ (fun E ce q9 w9 H locs hpx hP h9 hv9 hc9 => kl_out hout hlocks hP (by obtain ⟨hE, hbk, h09, hfr9⟩ := hpx; exact Or.inr (Or.inr ⟨hE, hok, by omega, co, rfl, by omega, hbk, h09, (hfr9 3 (by decide)).trans k3, fun j e hj k0 k1 => (hfr9 j k0).trans (frm j e hj k0 k1)⟩)) h9 hv9 hc9 (Nat.le_of_ble_eq_true rfl) (Nat.le_of_ble_eq_true rfl)) (fun w29 H locs q30 hP => ?_)
    obtain ⟨rfl, ok32⟩ := q30
    refine lv_aload_n hx hb dX4_single_55 rfl (lv_at hl 1 rfl) ?_
    refine kl_get (C := RX4) (T := TX4) (N := 16) (ci := 4) hx hb hts hinX4 hown hK hP k0 rfl 4 (by decide) (hts (.fieldLink RX4 28 "KinLedger" "singles" "[LKinLedger$Single;") (by decide +kernel)) (fun _ h9 => h9) rfl dX4_single_56 ?_
    refine lv_aload_n hx hb dX4_single_59 rfl (lv_at hl 1 rfl) ?_
    refine kl_get (C := RX4) (T := TX4) (N := 16) (ci := 4) hx hb hts hinX4 hown hK hP k0 rfl 5 (by decide) (hts (.fieldLink RX4 32 "KinLedger" "singleCount" "I") (by decide +kernel)) (fun _ h9 => h9) rfl dX4_single_60 ?_
    refine lv_aload_n hx hb dX4_single_63 rfl (lv_at hl 0 rfl) ?_
    refine kl_aast hx hb hK hP 4 3 (k0 := 4) (r := (RX3, TX3, 2)) k3 rfl f23 rfl (by omega) (by omega) dX4_single_64 (fun w33 H locs f34 fr35 hzw33 hP => ?_)
    have k0 : w33 0 = some (.inr (4, [.ref (B + 1), .int (nI nT), .ref (B + 2), .int (nI nL), .ref (B + 3), .int (nI nS), .ref (B + 4), .int (nI nC), .ref (B + 5), .int (nI nW), .ref (B + 6), .ref (B + 9), .ref (B + 12), .int (nI nM), .ref (B + 13), .int rs])) := (fr35 _ (by decide)).trans k0
    have k1 : w33 1 = some (kl_aI G 4 ((fun t => nI (cn t)))) := (fr35 _ (by decide)).trans k1
    have k6 : w33 6 = some (.inr (2, [.ref (B + 7), .ref (B + 8)])) := (fr35 _ (by decide)).trans k6
    have k7 : w33 7 = some (kl_aI G 24 T) := (fr35 _ (by decide)).trans k7
    have k8 : w33 8 = some (kl_aI G 96 C) := (fr35 _ (by decide)).trans k8
    have k47 : w33 47 = some (kl_aL G 1 ol) := (fr35 _ (by decide)).trans k47
    have f23 : w33 q = some (.inr (3, [.int (nI jj), .int (nI co)])) := (fr35 _ (by omega)).trans f23
    have frm : ∀ (j : Nat) (e : va_E), w j = some e → j ≠ 0 → j ≠ 3 → w33 j = some e := fun j e hj k0 k1 => (fr35 j k1).trans (frm j e hj k0 k1)
    refine lv_aload_n hx hb dX4_single_65 rfl (lv_at hl 1 rfl) ?_
    refine lv_dup hx hb dX4_single_66 rfl ?_
    refine kl_get (C := RX4) (T := TX4) (N := 16) (ci := 4) hx hb hts hinX4 hown hK hP k0 rfl 5 (by decide) (hts (.fieldLink RX4 32 "KinLedger" "singleCount" "I") (by decide +kernel)) (fun _ h9 => h9) rfl dX4_single_67 ?_
    refine lv_iconst (v := nI 1) hx hb dX4_single_70 (by decide) ?_
    refine lv_iadd hx hb dX4_single_71 ?_
    refine kl_top (z := nI (nS + 1)) (by first | exact nI_add _ _ | (rw [nI_add]; first | rfl | (congr 1; omega))) ?_
    refine kl_put (C := RX4) (T := TX4) (N := 16) (ci := 4) (v := .int (nI (nS + 1))) (ty := .int) hx hb hts hinX4 tyX4 tyX4_ok nmX4 hown hK hP k0 rfl 5 (by decide) (hts (.fieldLink RX4 32 "KinLedger" "singleCount" "I") (by decide +kernel)) (fun _ h9 => h9) rfl (by decide +kernel) rfl rfl (Nat.le_of_ble_eq_true rfl) dX4_single_72 (fun w36 H locs f37 fr38 hzw36 hP => ?_)
    have f37 : w36 0 = some (.inr (4, [.ref (B + 1), .int (nI nT), .ref (B + 2), .int (nI nL), .ref (B + 3), .int (nI (nS + 1)), .ref (B + 4), .int (nI nC), .ref (B + 5), .int (nI nW), .ref (B + 6), .ref (B + 9), .ref (B + 12), .int (nI nM), .ref (B + 13), .int rs])) := f37
    have k1 : w36 1 = some (kl_aI G 4 ((fun t => nI (cn t)))) := (fr38 _ (by decide)).trans k1
    have f34 : w36 3 = some (kl_aR G 4 4 (va_up sf nS (some (B + q)))) := (fr38 _ (by decide)).trans f34
    have k6 : w36 6 = some (.inr (2, [.ref (B + 7), .ref (B + 8)])) := (fr38 _ (by decide)).trans k6
    have k7 : w36 7 = some (kl_aI G 24 T) := (fr38 _ (by decide)).trans k7
    have k8 : w36 8 = some (kl_aI G 96 C) := (fr38 _ (by decide)).trans k8
    have k47 : w36 47 = some (kl_aL G 1 ol) := (fr38 _ (by decide)).trans k47
    have f23 : w36 q = some (.inr (3, [.int (nI jj), .int (nI co)])) := (fr38 _ (by omega)).trans f23
    have frm : ∀ (j : Nat) (e : va_E), w j = some e → j ≠ 0 → j ≠ 3 → w36 j = some e := fun j e hj k0 k1 => (fr38 j k0).trans (frm j e hj k0 k1)
    refine lv_aload_n hx hb dX4_single_75 rfl (lv_at hl 1 rfl) ?_
    refine kl_get (C := RX4) (T := TX4) (N := 16) (ci := 4) hx hb hts hinX4 hown hK hP f37 rfl 5 (by decide) (hts (.fieldLink RX4 32 "KinLedger" "singleCount" "I") (by decide +kernel)) (fun _ h9 => h9) rfl dX4_single_76 ?_
    refine lv_iconst (v := nI 1) hx hb dX4_single_79 (by decide) ?_
    refine lv_isub hx hb dX4_single_80 ?_
    refine kl_top (z := nI nS) (by first | exact pk_sub (by omega) | (rw [pk_sub (by omega)]; congr 1; omega)) ?_
    refine W.widen (k := 4) (n := 20) (by omega) (by omega) ?_
    refine vx_ret ?_
    exact kl_iret hx hb hr hlocks hP ⟨hok, by omega, rfl, co, q, rfl, hco0, by omega, ok32, by omega, fun j e hj => by have := hold j e hj; omega, f23, f34, f37, frm⟩ dX4_single_81

abbrev rm_X4_check : Room := { frames := 7, cells := 7, slots := 47, locals := 112 }
set_option maxHeartbeats 4000000 in
set_option maxRecDepth 100000 in
theorem c_X4_check (l : Launch) (hst : l.stackTraces = false) (G : kl_G) (B : Nat) (w : kl_M) {nT nW nM : Nat} {rs : Int32} {nL nS nC : Nat} {cn wt : Nat → Nat} {T C : Nat → Int32} {cf : Nat → Option Nat} {ol : Nat → Int64} (tb : Int32) (k0 : w 0 = some (.inr (4, [.ref (B + 1), .int (nI nT), .ref (B + 2), .int (nI nL), .ref (B + 3), .int (nI nS), .ref (B + 4), .int (nI nC), .ref (B + 5), .int (nI nW), .ref (B + 6), .ref (B + 9), .ref (B + 12), .int (nI nM), .ref (B + 13), .int rs]))) (k1 : w 1 = some (kl_aI G 4 ((fun t => nI (cn t))))) (k4 : w 4 = some (kl_aR G 5 4 cf)) (k5 : w 5 = some (kl_aI G 10 ((fun i => nI (wt i))))) (k6 : w 6 = some (.inr (2, [.ref (B + 7), .ref (B + 8)]))) (k7 : w 7 = some (kl_aI G 24 T)) (k8 : w 8 = some (kl_aI G 96 C)) (k47 : w 47 = some (kl_aL G 1 ol)) (hn : nT ≤ 4) (hnW : nW ≤ 10) (hnC : nC ≤ 4) (hcn4 : ∀ j, j < nT → cn j ≤ 4) (hwt : ∀ i, i < nW → mt_wok (wt i)) : vx_Met l yX4_check wsX4_check rm_X4_check (kl_Px G B w [.ref (B + 0), .int tb]) (kl_Qi G B (fun r w1 => ∃ tj, tj < nT ∧ tb = nI tj ∧ mt_right wt (cn tj) nW ∧ nC < 4 ∧ r = nI nC ∧ ¬ mt_cbrk T C tb wt nW ∧ ∃ q qw qp, 48 ≤ qw ∧ qw < q ∧ q < qp ∧ (∀ (j : Nat) (e : va_E), w j = some e → j < qw) ∧ w1 q = some (.inr (0, [.int tb, .ref (B + qw), .ref (B + qp)])) ∧ w1 qw = some (kl_aI G nW (fun i => nI (wt i))) ∧ (∃ g, w1 qp = some (kl_aI G nW g)) ∧ w1 4 = some (kl_aR G 5 4 (va_up cf nC (some (B + q)))) ∧ w1 0 = some (.inr (4, [.ref (B + 1), .int (nI nT), .ref (B + 2), .int (nI nL), .ref (B + 3), .int (nI nS), .ref (B + 4), .int (nI (nC + 1)), .ref (B + 5), .int (nI 0), .ref (B + 6), .ref (B + 9), .ref (B + 12), .int (nI nM), .ref (B + 13), .int rs])) ∧ ∀ (j : Nat) (e : va_E), w j = some e → j ≠ 0 → j ≠ 4 → w1 j = some e)) (kl_X G B (fun E w1 => (E = "java/lang/IllegalArgumentException" ∧ w1 = w ∧ ¬ mt_tab tb nT) ∨ (E = "java/lang/IllegalArgumentException" ∧ ∃ tj, tj < nT ∧ tb = nI tj ∧ ¬ mt_right wt (cn tj) nW ∧ w1 0 = some (.inr (4, [.ref (B + 1), .int (nI nT), .ref (B + 2), .int (nI nL), .ref (B + 3), .int (nI nS), .ref (B + 4), .int (nI nC), .ref (B + 5), .int (nI 0), .ref (B + 6), .ref (B + 9), .ref (B + 12), .int (nI nM), .ref (B + 13), .int rs])) ∧ w1 4 = some (kl_aR G 5 4 cf) ∧ ∀ (j : Nat) (e : va_E), w j = some e → j ≠ 0 → j ≠ 4 → w1 j = some e) ∨ (E = "java/util/NoSuchElementException" ∧ ∃ tj, tj < nT ∧ tb = nI tj ∧ mt_right wt (cn tj) nW ∧ ¬ nC < 4 ∧ w1 0 = some (.inr (4, [.ref (B + 1), .int (nI nT), .ref (B + 2), .int (nI nL), .ref (B + 3), .int (nI nS), .ref (B + 4), .int (nI nC), .ref (B + 5), .int (nI 0), .ref (B + 6), .ref (B + 9), .ref (B + 12), .int (nI nM), .ref (B + 13), .int rs])) ∧ w1 4 = some (kl_aR G 5 4 cf) ∧ ∀ (j : Nat) (e : va_E), w j = some e → j ≠ 0 → j ≠ 4 → w1 j = some e) ∨ (E = "java/lang/IllegalStateException" ∧ ∃ tj, tj < nT ∧ tb = nI tj ∧ mt_right wt (cn tj) nW ∧ nC < 4 ∧ mt_cbrk T C tb wt nW ∧ w1 0 = some (.inr (4, [.ref (B + 1), .int (nI nT), .ref (B + 2), .int (nI nL), .ref (B + 3), .int (nI nS), .ref (B + 4), .int (nI nC), .ref (B + 5), .int (nI 0), .ref (B + 6), .ref (B + 9), .ref (B + 12), .int (nI nM), .ref (B + 13), .int ((nI (500 + nC)))])) ∧ w1 4 = some (kl_aR G 5 4 cf) ∧ ∀ (j : Nat) (e : va_E), w j = some e → j ≠ 0 → j ≠ 4 → w1 j = some e))) 7 47 (kl_fr B) := by
  refine vx_ofW (cc := cX4_check) (maxL := 4) (ret := (some .int)) (by decide) rfl ?_
  intro pg e s m args below meth cd s₁ Bd hml hout hv
  obtain ⟨rfl, hP0, hK, hZ⟩ := hv
  have hx := Bd.exec
  have hb := Bd.bytes
  have hr := Bd.returns
  have hts := atoms_spec (ws := wsX4_check) Bd.pre
  have hown : s.vm.findClass RX4 = some m.cls := findClass_of_methodNamed Bd.named
  have hlocks := Bd.notSynchronized
  have hinX0 : ∀ w ∈ u_ws RX0 TX0 3, w ∈ wsX4_check := by decide +kernel
  have hinX4 : ∀ w ∈ u_ws RX4 TX4 16, w ∈ wsX4_check := by decide +kernel
  have hP := kl_S.rf hP0
  have hl := lv_entry ([.ref (B + 0), .int tb]) (n := 4) (Nat.le_of_ble_eq_true rfl)
  rw [lg_entry_eq]
  generalize (lg_sl ([.ref (B + 0), .int tb]) ++ List.replicate (4 - (lg_sl ([.ref (B + 0), .int tb])).length) Slot.unset).toArray = ls at hl ⊢
  have hl : lv_has ls 4 [(0, .ref (B + 0)), (1, .int tb)] := hl
  have frm : ∀ (j : Nat) (e : va_E), w j = some e → j ≠ 0 → j ≠ 4 → w j = some e := fun j e hj _ _ => hj
  have hold : ∀ (j : Nat) (e : va_E), w j = some e → B + j < s.heap.size := fun j e h => hP.lt h
  refine lv_aload_n hx hb dX4_check_0 rfl (lv_at hl 0 rfl) ?_
  refine lv_iload_n hx hb dX4_check_1 rfl (lv_at hl 1 rfl) ?_
  refine kl_cVi (C := RX4) (i := 0) (As := [.int tb]) (rest := []) ⟨hx, hb, hml, hown, hts⟩ (c_X4_isTable l G B _ tb k0 (by omega)) (cwV 1 hts gX4_check_X4_isTable rfl rfl rfl (by decide +kernel) ⟨Nat.le_of_ble_eq_true rfl, Nat.le_of_ble_eq_true rfl⟩) hK hP k0 rfl rfl hl.1 rfl (Nat.le_of_ble_eq_true rfl) dX4_check_2 ⟨Nat.le_of_ble_eq_true rfl, Nat.le_of_ble_eq_true rfl⟩ (fun r3 w1 H locs q2 hP => ?_)
  obtain ⟨rfl, hv4⟩ := q2
  refine klx_cSv (As := [.int r3]) (rest := []) ⟨hx, hb, hml, hown, hts⟩ (c_X4_needArgument l hst G B _ r3 hv4) (va_cwS 1 hts gX4_check_X4_needArgument rfl rfl rfl (by decide +kernel) ⟨Nat.le_of_ble_eq_true rfl, Nat.le_of_ble_eq_true rfl⟩) hK hZ hP rfl hl.1 rfl (Nat.le_of_ble_eq_true rfl) dX4_check_5 ⟨Nat.le_of_ble_eq_true rfl, Nat.le_of_ble_eq_true rfl⟩ (fun E ce q9 w9 H locs hpx hP h9 hv9 hc9 => kl_out hout hlocks hP (Or.inl ⟨hpx.1, hpx.2.1.symm, hpx.2.2⟩) h9 hv9 hc9 (Nat.le_of_ble_eq_true rfl) (Nat.le_of_ble_eq_true rfl)) (fun w5 H locs q6 hP => ?_)
  obtain ⟨rfl, ok8⟩ := q6
  have hok := ok8
  obtain ⟨tj, htj, rfl⟩ := ok8
  have hcj := hcn4 tj htj
  refine lv_aload_n hx hb dX4_check_8 rfl (lv_at hl 0 rfl) ?_
  refine kl_get (C := RX4) (T := TX4) (N := 16) (ci := 4) hx hb hts hinX4 hown hK hP k0 rfl 8 (by decide) (hts (.fieldLink RX4 44 "KinLedger" "waiting" "[I") (by decide +kernel)) (fun _ h9 => h9) rfl dX4_check_9 ?_
  refine lv_aload_n hx hb dX4_check_12 rfl (lv_at hl 0 rfl) ?_
  refine kl_get (C := RX4) (T := TX4) (N := 16) (ci := 4) hx hb hts hinX4 hown hK hP k0 rfl 9 (by decide) (hts (.fieldLink RX4 47 "KinLedger" "waitingCount" "I") (by decide +kernel)) (fun _ h9 => h9) rfl dX4_check_13 ?_
  refine kl_cSr (As := [.ref (B + 5), .int (nI nW)]) (rest := []) ⟨hx, hb, hml, hown, hts⟩ (c_J7_copyOf_59c91 l G B _ 5 nW 10 k5 (by omega) (by omega) (by omega)) (va_cwS 2 hts gX4_check_J7_copyOf_59c91 rfl rfl rfl (by decide +kernel) ⟨Nat.le_of_ble_eq_true rfl, Nat.le_of_ble_eq_true rfl⟩) hK hP rfl hl.1 rfl (Nat.le_of_ble_eq_true rfl) dX4_check_16 ⟨Nat.le_of_ble_eq_true rfl, Nat.le_of_ble_eq_true rfl⟩ (fun r11 w9 H locs q10 hP => ?_)
  obtain ⟨f12, fr13, hlt14⟩ := q10
  have lk47 := hlt14 _ _ k47
  have k0 : w9 0 = some (.inr (4, [.ref (B + 1), .int (nI nT), .ref (B + 2), .int (nI nL), .ref (B + 3), .int (nI nS), .ref (B + 4), .int (nI nC), .ref (B + 5), .int (nI nW), .ref (B + 6), .ref (B + 9), .ref (B + 12), .int (nI nM), .ref (B + 13), .int rs])) := (fr13 _ (by omega)).trans k0
  have k1 : w9 1 = some (kl_aI G 4 ((fun t => nI (cn t)))) := (fr13 _ (by omega)).trans k1
  have k4 : w9 4 = some (kl_aR G 5 4 cf) := (fr13 _ (by omega)).trans k4
  have k5 : w9 5 = some (kl_aI G 10 ((fun i => nI (wt i)))) := (fr13 _ (by omega)).trans k5
  have k6 : w9 6 = some (.inr (2, [.ref (B + 7), .ref (B + 8)])) := (fr13 _ (by omega)).trans k6
  have k7 : w9 7 = some (kl_aI G 24 T) := (fr13 _ (by omega)).trans k7
  have k8 : w9 8 = some (kl_aI G 96 C) := (fr13 _ (by omega)).trans k8
  have k47 : w9 47 = some (kl_aL G 1 ol) := (fr13 _ (by omega)).trans k47
  have frm : ∀ (j : Nat) (e : va_E), w j = some e → j ≠ 0 → j ≠ 4 → w9 j = some e := fun j e hj k0 k1 => (fr13 j (Nat.ne_of_lt (hlt14 j e hj))).trans (frm j e hj k0 k1)
  refine lv_astore_n (lv' := [(2, .ref (B + r11)), (0, .ref (B + 0)), (1, .int (nI tj))]) hx hb dX4_check_19 rfl hl (by decide) rfl (fun ls hl => ?_)
  refine lv_aload_n hx hb dX4_check_20 rfl (lv_at hl 1 rfl) ?_
  refine lv_iconst (v := nI 0) hx hb dX4_check_21 (by decide) ?_
  refine kl_put (C := RX4) (T := TX4) (N := 16) (ci := 4) (v := .int (nI 0)) (ty := .int) hx hb hts hinX4 tyX4 tyX4_ok nmX4 hown hK hP k0 rfl 9 (by decide) (hts (.fieldLink RX4 47 "KinLedger" "waitingCount" "I") (by decide +kernel)) (fun _ h9 => h9) rfl (by decide +kernel) rfl rfl (Nat.le_of_ble_eq_true rfl) dX4_check_22 (fun w15 H locs f16 fr17 hzw15 hP => ?_)
  have f16 : w15 0 = some (.inr (4, [.ref (B + 1), .int (nI nT), .ref (B + 2), .int (nI nL), .ref (B + 3), .int (nI nS), .ref (B + 4), .int (nI nC), .ref (B + 5), .int (nI 0), .ref (B + 6), .ref (B + 9), .ref (B + 12), .int (nI nM), .ref (B + 13), .int rs])) := f16
  have k1 : w15 1 = some (kl_aI G 4 ((fun t => nI (cn t)))) := (fr17 _ (by decide)).trans k1
  have k4 : w15 4 = some (kl_aR G 5 4 cf) := (fr17 _ (by decide)).trans k4
  have k5 : w15 5 = some (kl_aI G 10 ((fun i => nI (wt i)))) := (fr17 _ (by decide)).trans k5
  have k6 : w15 6 = some (.inr (2, [.ref (B + 7), .ref (B + 8)])) := (fr17 _ (by decide)).trans k6
  have k7 : w15 7 = some (kl_aI G 24 T) := (fr17 _ (by decide)).trans k7
  have k8 : w15 8 = some (kl_aI G 96 C) := (fr17 _ (by decide)).trans k8
  have k47 : w15 47 = some (kl_aL G 1 ol) := (fr17 _ (by decide)).trans k47
  have f12 : w15 r11 = some (kl_aI G nW ((fun i => nI (wt i)))) := (fr17 _ (by omega)).trans f12
  have frm : ∀ (j : Nat) (e : va_E), w j = some e → j ≠ 0 → j ≠ 4 → w15 j = some e := fun j e hj k0 k1 => (fr17 j k0).trans (frm j e hj k0 k1)
  refine lv_aload_n hx hb dX4_check_25 rfl (lv_at hl 0 rfl) ?_
  refine lv_aload_n hx hb dX4_check_26 rfl (lv_at hl 1 rfl) ?_
  refine kl_get (C := RX4) (T := TX4) (N := 16) (ci := 4) hx hb hts hinX4 hown hK hP f16 rfl 0 (by decide) (hts (.fieldLink RX4 9 "KinLedger" "columnCounts" "[I") (by decide +kernel)) (fun _ h9 => h9) rfl dX4_check_27 ?_
  refine lv_iload_n hx hb dX4_check_30 rfl (lv_at hl 2 rfl) ?_
  refine kl_iald hx hb hK hP k1 (by omega) (by omega) dX4_check_31 ?_
  refine kl_top (z := nI (cn tj)) rfl ?_
  refine kl_cSi (As := [.ref (B + r11), .int (nI (cn tj))]) (rest := []) ⟨hx, hb, hml, hown, hts⟩ (c_X0_areRight l G B _ r11 nW (cn tj) f12 (fun j hj => mt_wok_lt (hwt j hj)) (by omega) (by omega)) (va_cwS 2 hts gX4_check_X0_areRight rfl rfl rfl (by decide +kernel) ⟨Nat.le_of_ble_eq_true rfl, Nat.le_of_ble_eq_true rfl⟩) hK hP rfl hl.1 rfl (Nat.le_of_ble_eq_true rfl) dX4_check_32 ⟨Nat.le_of_ble_eq_true rfl, Nat.le_of_ble_eq_true rfl⟩ (fun r20 w18 H locs q19 hP => ?_)
  obtain ⟨rfl, hv21⟩ := q19
  refine klx_cSv (As := [.int r20]) (rest := []) ⟨hx, hb, hml, hown, hts⟩ (c_X4_needArgument l hst G B _ r20 hv21) (va_cwS 1 hts gX4_check_X4_needArgument rfl rfl rfl (by decide +kernel) ⟨Nat.le_of_ble_eq_true rfl, Nat.le_of_ble_eq_true rfl⟩) hK hZ hP rfl hl.1 rfl (Nat.le_of_ble_eq_true rfl) dX4_check_35 ⟨Nat.le_of_ble_eq_true rfl, Nat.le_of_ble_eq_true rfl⟩ (fun E ce q9 w9 H locs hpx hP h9 hv9 hc9 => kl_out hout hlocks hP (by obtain ⟨hE, hw9, hnp⟩ := hpx; subst hw9; exact Or.inr (Or.inl ⟨hE, tj, htj, rfl, hnp, f16, k4, frm⟩)) h9 hv9 hc9 (Nat.le_of_ble_eq_true rfl) (Nat.le_of_ble_eq_true rfl)) (fun w22 H locs q23 hP => ?_)
  obtain ⟨rfl, ok25⟩ := q23
  have hright : mt_right wt (cn tj) nW := ok25
  refine lv_aload_n hx hb dX4_check_38 rfl (lv_at hl 1 rfl) ?_
  refine kl_get (C := RX4) (T := TX4) (N := 16) (ci := 4) hx hb hts hinX4 hown hK hP f16 rfl 7 (by decide) (hts (.fieldLink RX4 41 "KinLedger" "checkCount" "I") (by decide +kernel)) (fun _ h9 => h9) rfl dX4_check_39 ?_
  refine lv_iconst (v := nI 4) hx hb dX4_check_42 (by decide) ?_
  refine kl_ge (tgt := 50) hx hb (by omega) (by omega) dX4_check_43 (by decide) (fun c43 => ?_) (fun c43 => ?_)
  · refine lv_iconst (v := nI 0) hx hb dX4_check_50 (by decide) ?_
    refine klx_cSv (As := [.int (nI 0)]) (rest := []) ⟨hx, hb, hml, hown, hts⟩ (c_X4_needElement l hst G B _ (nI 0) (kl_b.f (P := False) not_false)) (va_cwS 1 hts gX4_check_X4_needElement rfl rfl rfl (by decide +kernel) ⟨Nat.le_of_ble_eq_true rfl, Nat.le_of_ble_eq_true rfl⟩) hK hZ hP rfl hl.1 rfl (Nat.le_of_ble_eq_true rfl) dX4_check_51 ⟨Nat.le_of_ble_eq_true rfl, Nat.le_of_ble_eq_true rfl⟩ (fun E ce q9 w9 H locs hpx hP h9 hv9 hc9 => kl_out hout hlocks hP (by obtain ⟨hE, hw9, hnp⟩ := hpx; subst hw9; exact Or.inr (Or.inr (Or.inl ⟨hE, tj, htj, rfl, hright, by omega, f16, k4, frm⟩))) h9 hv9 hc9 (Nat.le_of_ble_eq_true rfl) (Nat.le_of_ble_eq_true rfl)) (fun w26 H locs q27 hP => ?_)
    exact (q27.2).elim
  · refine lv_iconst (v := nI 1) hx hb dX4_check_46 (by decide) ?_
    refine lv_goto (tgt := 51) hx hb dX4_check_47 (by decide) ?_
    refine klx_cSv (As := [.int (nI 1)]) (rest := []) ⟨hx, hb, hml, hown, hts⟩ (c_X4_needElement l hst G B _ (nI 1) (kl_b.t (P := True) trivial)) (va_cwS 1 hts gX4_check_X4_needElement rfl rfl rfl (by decide +kernel) ⟨Nat.le_of_ble_eq_true rfl, Nat.le_of_ble_eq_true rfl⟩) hK hZ hP rfl hl.1 rfl (Nat.le_of_ble_eq_true rfl) dX4_check_51 ⟨Nat.le_of_ble_eq_true rfl, Nat.le_of_ble_eq_true rfl⟩ (fun _ _ _ _ _ _ hpx _ _ _ _ => (hpx.2.2 trivial).elim) (fun w29 H locs q30 hP => ?_)
    obtain ⟨rfl, ok32⟩ := q30
    have hle := hP.2.1.1
    have lk47 := hP.lt k47
    have lf12 := hP.lt f12
    refine kl_new (ci := 0) (fs := [.int 0, .null, .null]) (C := RX0) (T := TX0) (N := 3) hx hb hts hinX0 tyX0 tyX0_ok hown (hts (.classLink RX4 35 RX0) (by decide +kernel)) (hts (.instantiable RX0 3) (by decide +kernel)) (hts (.initialized RX0) (by decide +kernel)) hK hP rfl (fun j hj => by rcases (show j = 0 ∨ j = 1 ∨ j = 2 by omega) with rfl | rfl | rfl <;> rfl) (Nat.le_of_ble_eq_true rfl) (Nat.le_of_ble_eq_true rfl) dX4_check_54 (fun q w33 H hq36 f34 fr35 hzw33 hP => ?_)
    have hgeq : s.heap.size ≤ B + q := by omega
    have f34 : w33 q = some (.inr (0, [.int (nI 0), .null, .null])) := f34
    have f16 : w33 0 = some (.inr (4, [.ref (B + 1), .int (nI nT), .ref (B + 2), .int (nI nL), .ref (B + 3), .int (nI nS), .ref (B + 4), .int (nI nC), .ref (B + 5), .int (nI 0), .ref (B + 6), .ref (B + 9), .ref (B + 12), .int (nI nM), .ref (B + 13), .int rs])) := (fr35 _ (by omega)).trans f16
    have k1 : w33 1 = some (kl_aI G 4 ((fun t => nI (cn t)))) := (fr35 _ (by omega)).trans k1
    have k4 : w33 4 = some (kl_aR G 5 4 cf) := (fr35 _ (by omega)).trans k4
    have k5 : w33 5 = some (kl_aI G 10 ((fun i => nI (wt i)))) := (fr35 _ (by omega)).trans k5
    have k6 : w33 6 = some (.inr (2, [.ref (B + 7), .ref (B + 8)])) := (fr35 _ (by omega)).trans k6
    have k7 : w33 7 = some (kl_aI G 24 T) := (fr35 _ (by omega)).trans k7
    have k8 : w33 8 = some (kl_aI G 96 C) := (fr35 _ (by omega)).trans k8
    have k47 : w33 47 = some (kl_aL G 1 ol) := (fr35 _ (by omega)).trans k47
    have f12 : w33 r11 = some (kl_aI G nW ((fun i => nI (wt i)))) := (fr35 _ (by omega)).trans f12
    have frm : ∀ (j : Nat) (e : va_E), w j = some e → j ≠ 0 → j ≠ 4 → w33 j = some e := fun j e hj k0 k1 => (fr35 j (by have := hold j e hj; omega)).trans (frm j e hj k0 k1)
    refine lv_dup hx hb dX4_check_57 rfl ?_
    refine lv_iload_n hx hb dX4_check_58 rfl (lv_at hl 2 rfl) ?_
    refine lv_aload_n hx hb dX4_check_59 rfl (lv_at hl 0 rfl) ?_
    refine kl_cIz (i := q) (As := [.int (nI tj), .ref (B + r11)]) (rest := [.ref (B + q)]) ⟨hx, hb, hml, hown, hts⟩ (c_X0_init l G B _ q (B + (q + 1)) (q + 1) (nI tj) r11 nW f34 f12 rfl (by omega) (by omega) (by omega) (by omega)) (cwI 2 hts gX4_check_X0_init rfl rfl rfl (hts (.initialized RX0) (by decide +kernel)) (hts (.methodLink RX4 117 yX0_init) (by decide +kernel)) (hts (.instanceMethod yX0_init) (by decide +kernel)) rfl (by decide +kernel) ⟨Nat.le_of_ble_eq_true rfl, Nat.le_of_ble_eq_true rfl⟩) (by first | omega | rfl) hK hP rfl hl.1 rfl (Nat.le_of_ble_eq_true rfl) dX4_check_60 ⟨Nat.le_of_ble_eq_true rfl, Nat.le_of_ble_eq_true rfl⟩ (fun w37 H locs q38 hzw37 hP => ?_)
    obtain ⟨f40, f41, fr42⟩ := q38
    have f16 : w37 0 = some (.inr (4, [.ref (B + 1), .int (nI nT), .ref (B + 2), .int (nI nL), .ref (B + 3), .int (nI nS), .ref (B + 4), .int (nI nC), .ref (B + 5), .int (nI 0), .ref (B + 6), .ref (B + 9), .ref (B + 12), .int (nI nM), .ref (B + 13), .int rs])) := (fr42 _ (by omega) (by omega)).trans f16
    have k1 : w37 1 = some (kl_aI G 4 ((fun t => nI (cn t)))) := (fr42 _ (by omega) (by omega)).trans k1
    have k4 : w37 4 = some (kl_aR G 5 4 cf) := (fr42 _ (by omega) (by omega)).trans k4
    have k5 : w37 5 = some (kl_aI G 10 ((fun i => nI (wt i)))) := (fr42 _ (by omega) (by omega)).trans k5
    have k6 : w37 6 = some (.inr (2, [.ref (B + 7), .ref (B + 8)])) := (fr42 _ (by omega) (by omega)).trans k6
    have k7 : w37 7 = some (kl_aI G 24 T) := (fr42 _ (by omega) (by omega)).trans k7
    have k8 : w37 8 = some (kl_aI G 96 C) := (fr42 _ (by omega) (by omega)).trans k8
    have k47 : w37 47 = some (kl_aL G 1 ol) := (fr42 _ (by omega) (by omega)).trans k47
    have f12 : w37 r11 = some (kl_aI G nW ((fun i => nI (wt i)))) := (fr42 _ (by omega) (by omega)).trans f12
    have f40 : w37 q = some (.inr (0, [.int (nI tj), .ref (B + r11), .ref (B + (q + 1))])) := f40
    have f41 : w37 (q + 1) = some (kl_aI G nW ((fun _ => 0))) := f41
    have frm : ∀ (j : Nat) (e : va_E), w j = some e → j ≠ 0 → j ≠ 4 → w37 j = some e := fun j e hj k0 k1 => (fr42 j (by have := hold j e hj; omega) (by have := hold j e hj; omega)).trans (frm j e hj k0 k1)
    refine lv_astore_n (lv' := [(3, .ref (B + q)), (2, .ref (B + r11)), (0, .ref (B + 0)), (1, .int (nI tj))]) hx hb dX4_check_63 rfl hl (by decide) rfl (fun ls hl => ?_)
    refine lv_aload_n hx hb dX4_check_64 rfl (lv_at hl 2 rfl) ?_
    refine lv_aload_n hx hb dX4_check_65 rfl (lv_at hl 0 rfl) ?_
    refine lv_aload_n hx hb dX4_check_66 rfl (lv_at hl 2 rfl) ?_
    refine kl_get (C := RX4) (T := TX4) (N := 16) (ci := 4) hx hb hts hinX4 hown hK hP f16 rfl 10 (by decide) (hts (.fieldLink RX4 53 "KinLedger" "rows" "LKinLedger$Rows;") (by decide +kernel)) (fun _ h9 => h9) rfl dX4_check_67 ?_
    refine kl_cVi (C := RX0) (i := q) (As := [.ref (B + 6)]) (rest := [.ref (B + 0)]) ⟨hx, hb, hml, hown, hts⟩ (c_X0_isBroken l G B _ 6 7 8 q r11 (q + 1) nW ((cn tj)) f40 f12 f41 k6 k7 k8 hright (by omega) hwt  (by omega) (by omega)) (cwV 1 hts gX4_check_X0_isBroken rfl rfl rfl (by decide +kernel) ⟨Nat.le_of_ble_eq_true rfl, Nat.le_of_ble_eq_true rfl⟩) hK hP f40 rfl rfl hl.1 rfl (Nat.le_of_ble_eq_true rfl) dX4_check_70 ⟨Nat.le_of_ble_eq_true rfl, Nat.le_of_ble_eq_true rfl⟩ (fun r45 w43 H locs q44 hP => ?_)
    obtain ⟨hv49, ⟨g46, f47⟩, fr48⟩ := q44
    have f16 : w43 0 = some (.inr (4, [.ref (B + 1), .int (nI nT), .ref (B + 2), .int (nI nL), .ref (B + 3), .int (nI nS), .ref (B + 4), .int (nI nC), .ref (B + 5), .int (nI 0), .ref (B + 6), .ref (B + 9), .ref (B + 12), .int (nI nM), .ref (B + 13), .int rs])) := (fr48 _ (by omega)).trans f16
    have k1 : w43 1 = some (kl_aI G 4 ((fun t => nI (cn t)))) := (fr48 _ (by omega)).trans k1
    have k4 : w43 4 = some (kl_aR G 5 4 cf) := (fr48 _ (by omega)).trans k4
    have k5 : w43 5 = some (kl_aI G 10 ((fun i => nI (wt i)))) := (fr48 _ (by omega)).trans k5
    have k6 : w43 6 = some (.inr (2, [.ref (B + 7), .ref (B + 8)])) := (fr48 _ (by omega)).trans k6
    have k7 : w43 7 = some (kl_aI G 24 T) := (fr48 _ (by omega)).trans k7
    have k8 : w43 8 = some (kl_aI G 96 C) := (fr48 _ (by omega)).trans k8
    have k47 : w43 47 = some (kl_aL G 1 ol) := (fr48 _ (by omega)).trans k47
    have f12 : w43 r11 = some (kl_aI G nW ((fun i => nI (wt i)))) := (fr48 _ (by omega)).trans f12
    have f40 : w43 q = some (.inr (0, [.int (nI tj), .ref (B + r11), .ref (B + (q + 1))])) := (fr48 _ (by omega)).trans f40
    have frm : ∀ (j : Nat) (e : va_E), w j = some e → j ≠ 0 → j ≠ 4 → w43 j = some e := fun j e hj k0 k1 => (fr48 j (by have := hold j e hj; omega)).trans (frm j e hj k0 k1)
    refine lv_sipush (v := nI 500) hx hb dX4_check_73 (by decide) ?_
    refine lv_aload_n hx hb dX4_check_76 rfl (lv_at hl 2 rfl) ?_
    refine kl_get (C := RX4) (T := TX4) (N := 16) (ci := 4) hx hb hts hinX4 hown hK hP f16 rfl 7 (by decide) (hts (.fieldLink RX4 41 "KinLedger" "checkCount" "I") (by decide +kernel)) (fun _ h9 => h9) rfl dX4_check_77 ?_
    refine lv_iadd hx hb dX4_check_80 ?_
    refine kl_top (z := nI (500 + nC)) (by first | exact nI_add _ _ | (rw [nI_add]; first | rfl | (congr 1; omega))) ?_
    refine klx_cVv (C := RX4) (i := 0) (As := [.int r45, .int (nI (500 + nC))]) (rest := []) ⟨hx, hb, hml, hown, hts⟩ (c_X4_refuseIf l hst G B _ r45 (nI (500 + nC)) f16 hv49) (cwV 2 hts gX4_check_X4_refuseIf rfl rfl rfl (by decide +kernel) ⟨Nat.le_of_ble_eq_true rfl, Nat.le_of_ble_eq_true rfl⟩) hK hZ hP f16 rfl rfl hl.1 rfl (Nat.le_of_ble_eq_true rfl) dX4_check_81 ⟨Nat.le_of_ble_eq_true rfl, Nat.le_of_ble_eq_true rfl⟩ (fun E ce q9 w9 H locs hpx hP h9 hv9 hc9 => kl_out hout hlocks hP (by obtain ⟨hE, hbk, h09, hfr9⟩ := hpx; exact Or.inr (Or.inr (Or.inr ⟨hE, tj, htj, rfl, hright, by omega, hbk, h09, (hfr9 4 (by decide)).trans k4, fun j e hj k0 k1 => (hfr9 j k0).trans (frm j e hj k0 k1)⟩))) h9 hv9 hc9 (Nat.le_of_ble_eq_true rfl) (Nat.le_of_ble_eq_true rfl)) (fun w50 H locs q51 hP => ?_)
    obtain ⟨rfl, ok53⟩ := q51
    refine lv_aload_n hx hb dX4_check_84 rfl (lv_at hl 2 rfl) ?_
    refine kl_get (C := RX4) (T := TX4) (N := 16) (ci := 4) hx hb hts hinX4 hown hK hP f16 rfl 6 (by decide) (hts (.fieldLink RX4 37 "KinLedger" "checks" "[LKinLedger$Check;") (by decide +kernel)) (fun _ h9 => h9) rfl dX4_check_85 ?_
    refine lv_aload_n hx hb dX4_check_88 rfl (lv_at hl 2 rfl) ?_
    refine kl_get (C := RX4) (T := TX4) (N := 16) (ci := 4) hx hb hts hinX4 hown hK hP f16 rfl 7 (by decide) (hts (.fieldLink RX4 41 "KinLedger" "checkCount" "I") (by decide +kernel)) (fun _ h9 => h9) rfl dX4_check_89 ?_
    refine lv_aload_n hx hb dX4_check_92 rfl (lv_at hl 0 rfl) ?_
    refine kl_aast hx hb hK hP 5 0 (k0 := 5) (r := (RX0, TX0, 3)) k4 rfl f40 rfl (by omega) (by omega) dX4_check_93 (fun w54 H locs f55 fr56 hzw54 hP => ?_)
    have f16 : w54 0 = some (.inr (4, [.ref (B + 1), .int (nI nT), .ref (B + 2), .int (nI nL), .ref (B + 3), .int (nI nS), .ref (B + 4), .int (nI nC), .ref (B + 5), .int (nI 0), .ref (B + 6), .ref (B + 9), .ref (B + 12), .int (nI nM), .ref (B + 13), .int rs])) := (fr56 _ (by decide)).trans f16
    have k1 : w54 1 = some (kl_aI G 4 ((fun t => nI (cn t)))) := (fr56 _ (by decide)).trans k1
    have k5 : w54 5 = some (kl_aI G 10 ((fun i => nI (wt i)))) := (fr56 _ (by decide)).trans k5
    have k6 : w54 6 = some (.inr (2, [.ref (B + 7), .ref (B + 8)])) := (fr56 _ (by decide)).trans k6
    have k7 : w54 7 = some (kl_aI G 24 T) := (fr56 _ (by decide)).trans k7
    have k8 : w54 8 = some (kl_aI G 96 C) := (fr56 _ (by decide)).trans k8
    have k47 : w54 47 = some (kl_aL G 1 ol) := (fr56 _ (by decide)).trans k47
    have f12 : w54 r11 = some (kl_aI G nW ((fun i => nI (wt i)))) := (fr56 _ (by omega)).trans f12
    have f40 : w54 q = some (.inr (0, [.int (nI tj), .ref (B + r11), .ref (B + (q + 1))])) := (fr56 _ (by omega)).trans f40
    have f47 : w54 (q + 1) = some (kl_aI G nW g46) := (fr56 _ (by omega)).trans f47
    have frm : ∀ (j : Nat) (e : va_E), w j = some e → j ≠ 0 → j ≠ 4 → w54 j = some e := fun j e hj k0 k1 => (fr56 j k1).trans (frm j e hj k0 k1)
    refine lv_aload_n hx hb dX4_check_94 rfl (lv_at hl 2 rfl) ?_
    refine lv_dup hx hb dX4_check_95 rfl ?_
    refine kl_get (C := RX4) (T := TX4) (N := 16) (ci := 4) hx hb hts hinX4 hown hK hP f16 rfl 7 (by decide) (hts (.fieldLink RX4 41 "KinLedger" "checkCount" "I") (by decide +kernel)) (fun _ h9 => h9) rfl dX4_check_96 ?_
    refine lv_iconst (v := nI 1) hx hb dX4_check_99 (by decide) ?_
    refine lv_iadd hx hb dX4_check_100 ?_
    refine kl_top (z := nI (nC + 1)) (by first | exact nI_add _ _ | (rw [nI_add]; first | rfl | (congr 1; omega))) ?_
    refine kl_put (C := RX4) (T := TX4) (N := 16) (ci := 4) (v := .int (nI (nC + 1))) (ty := .int) hx hb hts hinX4 tyX4 tyX4_ok nmX4 hown hK hP f16 rfl 7 (by decide) (hts (.fieldLink RX4 41 "KinLedger" "checkCount" "I") (by decide +kernel)) (fun _ h9 => h9) rfl (by decide +kernel) rfl rfl (Nat.le_of_ble_eq_true rfl) dX4_check_101 (fun w57 H locs f58 fr59 hzw57 hP => ?_)
    have f58 : w57 0 = some (.inr (4, [.ref (B + 1), .int (nI nT), .ref (B + 2), .int (nI nL), .ref (B + 3), .int (nI nS), .ref (B + 4), .int (nI (nC + 1)), .ref (B + 5), .int (nI 0), .ref (B + 6), .ref (B + 9), .ref (B + 12), .int (nI nM), .ref (B + 13), .int rs])) := f58
    have k1 : w57 1 = some (kl_aI G 4 ((fun t => nI (cn t)))) := (fr59 _ (by decide)).trans k1
    have f55 : w57 4 = some (kl_aR G 5 4 (va_up cf nC (some (B + q)))) := (fr59 _ (by decide)).trans f55
    have k5 : w57 5 = some (kl_aI G 10 ((fun i => nI (wt i)))) := (fr59 _ (by decide)).trans k5
    have k6 : w57 6 = some (.inr (2, [.ref (B + 7), .ref (B + 8)])) := (fr59 _ (by decide)).trans k6
    have k7 : w57 7 = some (kl_aI G 24 T) := (fr59 _ (by decide)).trans k7
    have k8 : w57 8 = some (kl_aI G 96 C) := (fr59 _ (by decide)).trans k8
    have k47 : w57 47 = some (kl_aL G 1 ol) := (fr59 _ (by decide)).trans k47
    have f12 : w57 r11 = some (kl_aI G nW ((fun i => nI (wt i)))) := (fr59 _ (by omega)).trans f12
    have f40 : w57 q = some (.inr (0, [.int (nI tj), .ref (B + r11), .ref (B + (q + 1))])) := (fr59 _ (by omega)).trans f40
    have f47 : w57 (q + 1) = some (kl_aI G nW g46) := (fr59 _ (by omega)).trans f47
    have frm : ∀ (j : Nat) (e : va_E), w j = some e → j ≠ 0 → j ≠ 4 → w57 j = some e := fun j e hj k0 k1 => (fr59 j k0).trans (frm j e hj k0 k1)
    refine lv_aload_n hx hb dX4_check_104 rfl (lv_at hl 2 rfl) ?_
    refine kl_get (C := RX4) (T := TX4) (N := 16) (ci := 4) hx hb hts hinX4 hown hK hP f58 rfl 7 (by decide) (hts (.fieldLink RX4 41 "KinLedger" "checkCount" "I") (by decide +kernel)) (fun _ h9 => h9) rfl dX4_check_105 ?_
    refine lv_iconst (v := nI 1) hx hb dX4_check_108 (by decide) ?_
    refine lv_isub hx hb dX4_check_109 ?_
    refine kl_top (z := nI nC) (by first | exact pk_sub (by omega) | (rw [pk_sub (by omega)]; congr 1; omega)) ?_
    refine W.widen (k := 7) (n := 47) (by omega) (by omega) ?_
    refine vx_ret ?_
    exact kl_iret hx hb hr hlocks hP ⟨tj, htj, rfl, hright, by omega, rfl, ok53, q, r11, q + 1, by omega, by omega, by omega, hlt14, f40, f12, ⟨_, f47⟩, f55, f58, frm⟩ dX4_check_110
