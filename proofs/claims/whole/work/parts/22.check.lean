abbrev rm_X0_init : Room := { frames := 1, cells := 1, slots := 10, locals := 12 }
set_option maxHeartbeats 4000000 in
set_option maxRecDepth 100000 in
theorem c_X0_init (l : Launch) (G : kl_G) (B : Nat) (w : kl_M) (k z q : Nat) (t : Int32) (wi n : Nat) {wd : Nat → Nat} (h0 : w k = some (.inr (0, [.int (nI 0), .null, .null]))) (h1 : w wi = some (kl_aI G n ((fun j => nI (wd j))))) (hz9 : z = B + q) (hkq : k < q) (hwq : wi < q) (nkw : wi ≠ k) (hn : n ≤ 10) : Met l yX0_init wsX0_init rm_X0_init (kl_Pz G B z w [.ref (B + k), .int t, .ref (B + wi)]) (kl_Qz G B 1 (fun w1 => w1 k = some (.inr (0, [.int t, .ref (B + wi), .ref (B + q)])) ∧ w1 q = some (kl_aI G n (fun _ => 0)) ∧ ∀ j, j ≠ k → j ≠ q → w1 j = w j)) 1 10 (kl_fr B) := by
  refine Met.ofW (cc := cX0_init) (maxL := 3) (ret := none) (by decide) rfl ?_
  intro pg e s m args below meth cd s₁ Bd hml hv
  obtain ⟨rfl, hsz, hP0, hK⟩ := hv
  have hx := Bd.exec
  have hb := Bd.bytes
  have hr := Bd.returns
  have hts := atoms_spec (ws := wsX0_init) Bd.pre
  have hown : s.vm.findClass RX0 = some m.cls := findClass_of_methodNamed Bd.named
  have hlocks := Bd.notSynchronized
  have hin2 : meth.name = "<init>" := (name_of_methodNamed Bd.named Bd.method).1
  have hinX0 : ∀ w ∈ u_ws RX0 TX0 3, w ∈ wsX0_init := by decide +kernel
  have hP := kl_S.rf hP0
  have hl := lv_entry ([.ref (B + k), .int t, .ref (B + wi)]) (n := 3) (Nat.le_of_ble_eq_true rfl)
  rw [lg_entry_eq]
  generalize (lg_sl ([.ref (B + k), .int t, .ref (B + wi)]) ++ List.replicate (3 - (lg_sl ([.ref (B + k), .int t, .ref (B + wi)])).length) Slot.unset).toArray = ls at hl ⊢
  have hl : lv_has ls 3 [(0, .ref (B + k)), (1, .int t), (2, .ref (B + wi))] := hl
  have frm : ∀ j : Nat, j ≠ k → j ≠ q → w j = w j := fun j _ _ => rfl
  have hz0 : s.heap.size = B + q + 0 := by omega
  refine lv_aload_n hx hb dX0_init_0 rfl (lv_at hl 0 rfl) ?_
  refine W.objInit hx hb hown (hts (.methodLink RX0 3 objectInit) (by decide +kernel)) (hts (.instanceMethod objectInit) (by decide +kernel)) (hts (.code objectInit ⟨#[0xb1]⟩ 1 none) (by decide +kernel)) rfl (by rw [hml]; exact hl.1) rfl dX0_init_1 (Nat.le_of_ble_eq_true rfl) (Nat.le_of_ble_eq_true rfl) ?_
  refine W.eq (g2 := F0 m 4 ls []) rfl ?_
  refine lv_aload_n hx hb dX0_init_4 rfl (lv_at hl 0 rfl) ?_
  refine lv_iload_n hx hb dX0_init_5 rfl (lv_at hl 1 rfl) ?_
  refine kl_putF (C := RX0) (T := TX0) (N := 3) (ci := 0) (v := .int t) (ty := .int) hx hb hts hinX0 tyX0 tyX0_ok nmX0 hown hK hP h0 rfl 0 (by decide) (hts (.fieldLink RX0 9 "KinLedger$Check" "table" "I") (by decide +kernel)) (fun _ h9 => h9) rfl hin2 rfl (by decide +kernel) rfl rfl (Nat.le_of_ble_eq_true rfl) dX0_init_6 (fun w1 H locs f2 fr3 hzw1 hP => ?_)
  have z4 : H.size = B + q + 0 := by omega
  have f2 : w1 k = some (.inr (0, [.int t, .null, .null])) := f2
  have h1 : w1 wi = some (kl_aI G n ((fun j => nI (wd j)))) := (fr3 _ (by omega)).trans h1
  have frm : ∀ j : Nat, j ≠ k → j ≠ q → w1 j = w j := fun j k0 k1 => (fr3 j k0).trans (frm j k0 k1)
  refine lv_aload_n hx hb dX0_init_9 rfl (lv_at hl 0 rfl) ?_
  refine lv_aload_n hx hb dX0_init_10 rfl (lv_at hl 2 rfl) ?_
  refine kl_putF (C := RX0) (T := TX0) (N := 3) (ci := 0) (v := .ref (B + wi)) (ty := (.array .int)) hx hb hts hinX0 tyX0 tyX0_ok nmX0 hown hK hP f2 rfl 1 (by decide) (hts (.fieldLink RX0 15 "KinLedger$Check" "words" "[I") (by decide +kernel)) (fun _ h9 => h9) rfl hin2 rfl (by decide +kernel) rfl rfl (Nat.le_of_ble_eq_true rfl) dX0_init_11 (fun w5 H locs f6 fr7 hzw5 hP => ?_)
  have z8 : H.size = B + q + 0 := by omega
  have f6 : w5 k = some (.inr (0, [.int t, .ref (B + wi), .null])) := f6
  have h1 : w5 wi = some (kl_aI G n ((fun j => nI (wd j)))) := (fr7 _ (by omega)).trans h1
  have frm : ∀ j : Nat, j ≠ k → j ≠ q → w5 j = w j := fun j k0 k1 => (fr7 j k0).trans (frm j k0 k1)
  refine lv_aload_n hx hb dX0_init_14 rfl (lv_at hl 0 rfl) ?_
  refine lv_aload_n hx hb dX0_init_15 rfl (lv_at hl 2 rfl) ?_
  refine kl_alen hx hb hK hP 0 (k0 := 0) h1 rfl dX0_init_16 ?_
  refine kl_top (z := nI n) rfl ?_
  refine kl_newI hx hb (hts (.arrayClass .int) (by decide +kernel)) hK hP (n := n) (by omega) (Nat.le_of_ble_eq_true rfl) (by first | exact Nat.le_of_ble_eq_true rfl | (show 0 + n ≤ 10; omega)) dX0_init_17 (fun a9 w10 H hq13 f11 fr12 hzw10 hP => ?_)
  have z14 : H.size = B + q + 1 := by omega
  obtain rfl : q = a9 := by omega
  have f11 : w10 q = some (kl_aI G n ((fun _ => 0))) := f11
  have f6 : w10 k = some (.inr (0, [.int t, .ref (B + wi), .null])) := (fr12 _ (by omega)).trans f6
  have h1 : w10 wi = some (kl_aI G n ((fun j => nI (wd j)))) := (fr12 _ (by omega)).trans h1
  have frm : ∀ j : Nat, j ≠ k → j ≠ q → w10 j = w j := fun j k0 k1 => (fr12 j k1).trans (frm j k0 k1)
  refine kl_putF (C := RX0) (T := TX0) (N := 3) (ci := 0) (v := .ref (B + q)) (ty := (.array .int)) hx hb hts hinX0 tyX0 tyX0_ok nmX0 hown hK hP f6 rfl 2 (by decide) (hts (.fieldLink RX0 19 "KinLedger$Check" "pile" "[I") (by decide +kernel)) (fun _ h9 => h9) rfl hin2 rfl (by decide +kernel) rfl rfl (Nat.le_of_ble_eq_true rfl) dX0_init_19 (fun w15 H locs f16 fr17 hzw15 hP => ?_)
  have z18 : H.size = B + q + 1 := by omega
  have f16 : w15 k = some (.inr (0, [.int t, .ref (B + wi), .ref (B + q)])) := f16
  have h1 : w15 wi = some (kl_aI G n ((fun j => nI (wd j)))) := (fr17 _ (by omega)).trans h1
  have f11 : w15 q = some (kl_aI G n ((fun _ => 0))) := (fr17 _ (by omega)).trans f11
  have frm : ∀ j : Nat, j ≠ k → j ≠ q → w15 j = w j := fun j k0 k1 => (fr17 j k0).trans (frm j k0 k1)
  refine W.widen (k := 1) (n := 10) (by omega) (by omega) ?_
  exact kl_vretz hx hb hr hlocks hP ⟨f16, f11, frm⟩ (by omega) dX0_init_22

abbrev rm_X0_result : Room := { frames := 2, cells := 0, slots := 0, locals := 44 }
set_option maxHeartbeats 4000000 in
set_option maxRecDepth 100000 in
theorem c_X0_result (l : Launch) (G : kl_G) (B : Nat) (w : kl_M) (i a b : Nat) {T C : Nat → Int32} (k wi pi n cols : Nat) {tb : Int32} {wd : Nat → Nat} {g : Nat → Int32} (p : Nat) (h3 : w k = some (.inr (0, [.int tb, .ref (B + wi), .ref (B + pi)]))) (h4 : w wi = some (kl_aI G n ((fun j => nI (wd j))))) (h5 : w pi = some (kl_aI G n g)) (h0 : w i = some (.inr (2, [.ref (B + a), .ref (B + b)]))) (h1 : w a = some (kl_aI G 24 T)) (h2 : w b = some (kl_aI G 96 C)) (hp : p < 24) (hrt : mt_right wd cols n) (hc4 : cols ≤ 4) (hw : ∀ j, j < n → mt_wok (wd j)) (hn : n ≤ 10) (npi : pi ≠ k ∧ pi ≠ wi ∧ pi ≠ i ∧ pi ≠ a ∧ pi ≠ b) : Met l yX0_result wsX0_result rm_X0_result (kl_Pc G B w [.ref (B + k), .ref (B + i), .int (nI p)]) (kl_Qi G B (fun r w1 => r = mt_ev wd n (fun c => C (4 * p + c)) ∧ (∃ g2, w1 pi = some (kl_aI G n g2)) ∧ ∀ j, j ≠ pi → w1 j = w j)) 0 0 (kl_fr B) := by
  refine Met.ofW (cc := cX0_result) (maxL := 6) (ret := (some .int)) (by decide) rfl ?_
  intro pg e s m args below meth cd s₁ Bd hml hv
  obtain ⟨rfl, hP0, hK⟩ := hv
  have hx := Bd.exec
  have hb := Bd.bytes
  have hr := Bd.returns
  have hts := atoms_spec (ws := wsX0_result) Bd.pre
  have hown : s.vm.findClass RX0 = some m.cls := findClass_of_methodNamed Bd.named
  have hlocks := Bd.notSynchronized
  have hinX0 : ∀ w ∈ u_ws RX0 TX0 3, w ∈ wsX0_result := by decide +kernel
  have hP := kl_S.rf hP0
  have hl := lv_entry ([.ref (B + k), .ref (B + i), .int (nI p)]) (n := 6) (Nat.le_of_ble_eq_true rfl)
  rw [lg_entry_eq]
  generalize (lg_sl ([.ref (B + k), .ref (B + i), .int (nI p)]) ++ List.replicate (6 - (lg_sl ([.ref (B + k), .ref (B + i), .int (nI p)])).length) Slot.unset).toArray = ls at hl ⊢
  have hl : lv_has ls 6 [(0, .ref (B + k)), (1, .ref (B + i)), (2, .int (nI p))] := hl
  have frm : ∀ j : Nat, j ≠ pi → w j = w j := fun j _ => rfl
  obtain ⟨n1, n2, n3, n4, n5⟩ := npi
  refine lv_iconst (v := nI 0) hx hb dX0_result_0 (by decide) ?_
  refine lv_istore_n (lv' := [(3, .int (nI 0)), (0, .ref (B + k)), (1, .ref (B + i)), (2, .int (nI p))]) hx hb dX0_result_1 rfl hl (by decide) rfl (fun ls hl => ?_)
  refine lv_iconst (v := nI 0) hx hb dX0_result_2 (by decide) ?_
  refine lv_istore (lv' := [(4, .int (nI 0)), (3, .int (nI 0)), (0, .ref (B + k)), (1, .ref (B + i)), (2, .int (nI p))]) hx hb dX0_result_3 hl (by decide) rfl (fun ls hl => ?_)
  have lp5 : ∀ (n5 : Nat) (u : Nat) (h : Nat) (gg : Nat → Int32), n - u < n5 → (u ≤ n) → (mt_h wd cols u = some h) → (∀ j, j < h → gg j = mt_pile wd (fun c => C (4 * p + c)) u j) → ∀ (w1 : kl_M) (H : Heap) (locs : List Loc), w1 k = some (.inr (0, [.int tb, .ref (B + wi), .ref (B + pi)])) → w1 wi = some (kl_aI G n ((fun j => nI (wd j)))) → w1 pi = some (kl_aI G n gg) → w1 i = some (.inr (2, [.ref (B + a), .ref (B + b)])) → w1 a = some (kl_aI G 24 T) → w1 b = some (kl_aI G 96 C) → (∀ j : Nat, j ≠ pi → w1 j = w j) → kl_S G B w1 s.heap H locs → ∀ ls : Array Slot, lv_has ls 6 [(0, .ref (B + k)), (1, .ref (B + i)), (2, .int (nI p)), (3, .int (nI h)), (4, .int (nI u))] → W pg l e rm_X0_result s m ([.ref (B + k), .ref (B + i), .int (nI p)] : List Value).toArray below meth cd H locs (0) (0) (MQ below (kl_Qi G B (fun r w1 => r = mt_ev wd n (fun c => C (4 * p + c)) ∧ (∃ g2, w1 pi = some (kl_aI G n g2)) ∧ ∀ j, j ≠ pi → w1 j = w j)) ([.ref (B + k), .ref (B + i), .int (nI p)] : List Value).toArray s 0 0 (kl_fr B)) (F0 m 5 ls []) := by
    intro n5
    induction n5 with
    | zero => intro u h gg hm; exact absurd hm (Nat.not_lt_zero _)
    | succ n5 ih5 =>
      intro u h gg hm hu hh hg w1 H locs h3 h4 h5 h0 h1 h2 frm hP ls hl
      refine lv_iload hx hb dX0_result_5 (lv_at hl 4 rfl) ?_
      refine lv_aload_n hx hb dX0_result_7 rfl (lv_at hl 0 rfl) ?_
      refine kl_get (C := RX0) (T := TX0) (N := 3) (ci := 0) hx hb hts hinX0 hown hK hP h3 rfl 1 (by decide) (hts (.fieldLink RX0 15 "KinLedger$Check" "words" "[I") (by decide +kernel)) (fun _ h9 => h9) rfl dX0_result_8 ?_
      refine kl_alen hx hb hK hP 0 (k0 := 0) h4 rfl dX0_result_11 ?_
      refine kl_top (z := nI n) rfl ?_
      refine kl_ge (tgt := 79) hx hb (by omega) (by omega) dX0_result_12 (by decide) (fun c12 => ?_) (fun c12 => ?_)
      · have hn0 := mt_right_pos hrt
        refine lv_aload_n hx hb dX0_result_79 rfl (lv_at hl 0 rfl) ?_
        refine kl_get (C := RX0) (T := TX0) (N := 3) (ci := 0) hx hb hts hinX0 hown hK hP h3 rfl 2 (by decide) (hts (.fieldLink RX0 19 "KinLedger$Check" "pile" "[I") (by decide +kernel)) (fun _ h9 => h9) rfl dX0_result_80 ?_
        refine lv_iconst (v := nI 0) hx hb dX0_result_83 (by decide) ?_
        refine kl_iald hx hb hK hP h5 (by omega) (by omega) dX0_result_84 ?_
        exact kl_iret hx hb hr hlocks hP ⟨by have e1 : n = u := (by omega); subst e1; have e2 : h = 1 := Option.some.inj (hh.symm.trans hrt); exact hg 0 (by omega), ⟨_, h5⟩, frm⟩ dX0_result_85
      · obtain ⟨y, hy⟩ := mt_h_some hrt (u + 1) (by omega)
        obtain ⟨hok, rfl⟩ := mt_h_inv hh hy
        have hwo := hw u (by omega)
        have hwl : wd u < 2 ^ 30 := by unfold mt_wok at hwo; omega
        have htk := mt_tk_le (wd u)
        have hlu := mt_h_le hh
        refine lv_aload_n hx hb dX0_result_15 rfl (lv_at hl 0 rfl) ?_
        refine kl_get (C := RX0) (T := TX0) (N := 3) (ci := 0) hx hb hts hinX0 hown hK hP h3 rfl 1 (by decide) (hts (.fieldLink RX0 15 "KinLedger$Check" "words" "[I") (by decide +kernel)) (fun _ h9 => h9) rfl dX0_result_16 ?_
        refine lv_iload hx hb dX0_result_19 (lv_at hl 4 rfl) ?_
        refine kl_iald hx hb hK hP h4 (by omega) (by omega) dX0_result_21 ?_
        refine kl_top (z := nI (wd u)) rfl ?_
        refine kl_cSi (As := [.int (nI (wd u))]) (rest := []) ⟨hx, hb, hml, hown, hts⟩ (c_X0_taken l G B _ (wd u) (by omega)) (va_cwS 1 hts gX0_result_X0_taken rfl rfl rfl (by decide +kernel) ⟨Nat.le_of_ble_eq_true rfl, Nat.le_of_ble_eq_true rfl⟩) hK hP rfl hl.1 rfl (Nat.le_of_ble_eq_true rfl) dX0_result_22 ⟨Nat.le_of_ble_eq_true rfl, Nat.le_of_ble_eq_true rfl⟩ (fun r3 w1 H locs q2 hP => ?_)
        obtain ⟨rfl, rfl⟩ := q2
        refine lv_istore (lv' := [(5, .int (nI (mt_tk (wd u)))), (0, .ref (B + k)), (1, .ref (B + i)), (2, .int (nI p)), (3, .int (nI h)), (4, .int (nI u))]) hx hb dX0_result_25 hl (by decide) rfl (fun ls hl => ?_)
        refine lv_iload_n hx hb dX0_result_27 rfl (lv_at hl 4 rfl) ?_
        refine lv_iload hx hb dX0_result_28 (lv_at hl 0 rfl) ?_
        refine lv_isub hx hb dX0_result_30 ?_
        refine kl_top (z := nI (h - mt_tk (wd u))) (by first | exact pk_sub (by omega) | (rw [pk_sub (by omega)]; congr 1; omega)) ?_
        refine lv_istore_n (lv' := [(3, .int (nI (h - mt_tk (wd u)))), (5, .int (nI (mt_tk (wd u)))), (0, .ref (B + k)), (1, .ref (B + i)), (2, .int (nI p)), (4, .int (nI u))]) hx hb dX0_result_31 rfl hl (by decide) rfl (fun ls hl => ?_)
        refine lv_aload_n hx hb dX0_result_32 rfl (lv_at hl 2 rfl) ?_
        refine kl_get (C := RX0) (T := TX0) (N := 3) (ci := 0) hx hb hts hinX0 hown hK hP h3 rfl 2 (by decide) (hts (.fieldLink RX0 19 "KinLedger$Check" "pile" "[I") (by decide +kernel)) (fun _ h9 => h9) rfl dX0_result_33 ?_
        refine lv_iload_n hx hb dX0_result_36 rfl (lv_at hl 0 rfl) ?_
        refine lv_iload hx hb dX0_result_37 (lv_at hl 1 rfl) ?_
        refine kl_z_ne (tgt := 57) hx hb (by omega) dX0_result_39 (by decide) (fun c39 => ?_) (fun c39 => ?_)
        · refine lv_aload_n hx hb dX0_result_57 rfl (lv_at hl 2 rfl) ?_
          refine lv_aload_n hx hb dX0_result_58 rfl (lv_at hl 2 rfl) ?_
          refine kl_get (C := RX0) (T := TX0) (N := 3) (ci := 0) hx hb hts hinX0 hown hK hP h3 rfl 1 (by decide) (hts (.fieldLink RX0 15 "KinLedger$Check" "words" "[I") (by decide +kernel)) (fun _ h9 => h9) rfl dX0_result_59 ?_
          refine lv_iload hx hb dX0_result_62 (lv_at hl 5 rfl) ?_
          refine kl_iald hx hb hK hP h4 (by omega) (by omega) dX0_result_64 ?_
          refine kl_top (z := nI (wd u)) rfl ?_
          refine lv_iload_n hx hb dX0_result_65 rfl (lv_at hl 0 rfl) ?_
          refine kl_cVi (C := RX0) (i := k) (As := [.int (nI (wd u)), .int (nI (h - mt_tk (wd u)))]) (rest := [.int (nI (h - mt_tk (wd u))), .ref (B + pi)]) ⟨hx, hb, hml, hown, hts⟩ (c_X0_worked l G B _ k pi n (wd u) (h - mt_tk (wd u)) h3 h5 (mt_tk_pos c39) (by omega) (fun z => by have := mt_tk_two c39 z; omega) (by omega)) (cwV 2 hts gX0_result_X0_worked rfl rfl rfl (by decide +kernel) ⟨Nat.le_of_ble_eq_true rfl, Nat.le_of_ble_eq_true rfl⟩) hK hP h3 rfl rfl hl.1 rfl (Nat.le_of_ble_eq_true rfl) dX0_result_66 ⟨Nat.le_of_ble_eq_true rfl, Nat.le_of_ble_eq_true rfl⟩ (fun r6 w4 H locs q5 hP => ?_)
          obtain ⟨rfl, rfl⟩ := q5
          refine kl_iast hx hb hK hP h5 (by omega) (by omega) dX0_result_69 (fun w7 H locs f8 fr9 hzw7 hP => ?_)
          have h3 : w7 k = some (.inr (0, [.int tb, .ref (B + wi), .ref (B + pi)])) := (fr9 _ (by omega)).trans h3
          have h4 : w7 wi = some (kl_aI G n ((fun j => nI (wd j)))) := (fr9 _ (by omega)).trans h4
          have h0 : w7 i = some (.inr (2, [.ref (B + a), .ref (B + b)])) := (fr9 _ (by omega)).trans h0
          have h1 : w7 a = some (kl_aI G 24 T) := (fr9 _ (by omega)).trans h1
          have h2 : w7 b = some (kl_aI G 96 C) := (fr9 _ (by omega)).trans h2
          have frm : ∀ j : Nat, j ≠ pi → w7 j = w j := fun j k0 => (fr9 j k0).trans (frm j k0)
          refine lv_iinc (v := nI (h - mt_tk (wd u) + 1)) (lv' := [(3, .int (nI (h - mt_tk (wd u) + 1))), (5, .int (nI (mt_tk (wd u)))), (0, .ref (B + k)), (1, .ref (B + i)), (2, .int (nI p)), (4, .int (nI u))]) hx hb dX0_result_70 hl (k := 0) rfl (nI_1 _) (by decide) rfl (fun ls hl => ?_)
          refine lv_iinc (v := nI (u + 1)) (lv' := [(4, .int (nI (u + 1))), (3, .int (nI (h - mt_tk (wd u) + 1))), (5, .int (nI (mt_tk (wd u)))), (0, .ref (B + k)), (1, .ref (B + i)), (2, .int (nI p))]) hx hb dX0_result_73 hl (k := 5) rfl (nI_1 _) (by decide) rfl (fun ls hl => ?_)
          refine lv_goto (tgt := 5) hx hb dX0_result_76 (by decide) ?_
          exact ih5 (u + 1) (h - mt_tk (wd u) + 1) (upd gg (h - mt_tk (wd u)) (mt_op (wd u) (gg (h - mt_tk (wd u))) (if wd u = 17 then 0 else gg (h - mt_tk (wd u) + 1)))) (by omega) (by first | omega | grind) (by rw [show h - mt_tk (wd u) + 1 = h + 1 - mt_tk (wd u) by omega]; exact hy) (mt_pile_step (mt_hh_eq hh) (by omega) hg (by unfold mt_val; exact (if_neg (by omega)).symm)) _ _ _ h3 h4 f8 h0 h1 h2 frm hP ls (lv_sub hl [3, 4, 5, 1, 0] rfl)
        · refine lv_aload_n hx hb dX0_result_42 rfl (lv_at hl 2 rfl) ?_
          refine kl_get (C := RX0) (T := TX0) (N := 3) (ci := 0) hx hb hts hinX0 hown hK hP h3 rfl 1 (by decide) (hts (.fieldLink RX0 15 "KinLedger$Check" "words" "[I") (by decide +kernel)) (fun _ h9 => h9) rfl dX0_result_43 ?_
          refine lv_iload hx hb dX0_result_46 (lv_at hl 5 rfl) ?_
          refine kl_iald hx hb hK hP h4 (by omega) (by omega) dX0_result_48 ?_
          refine kl_top (z := nI (wd u)) rfl ?_
          refine lv_aload_n hx hb dX0_result_49 rfl (lv_at hl 3 rfl) ?_
          refine lv_iload_n hx hb dX0_result_50 rfl (lv_at hl 4 rfl) ?_
          refine kl_cSi (As := [.int (nI (wd u)), .ref (B + i), .int (nI p)]) (rest := [.int (nI (h - mt_tk (wd u))), .ref (B + pi)]) ⟨hx, hb, hml, hown, hts⟩ (c_X0_laid l G B _ i a b (wd u) p h0 h1 h2 (by omega) (by omega)) (va_cwS 3 hts gX0_result_X0_laid rfl rfl rfl (by decide +kernel) ⟨Nat.le_of_ble_eq_true rfl, Nat.le_of_ble_eq_true rfl⟩) hK hP rfl hl.1 rfl (Nat.le_of_ble_eq_true rfl) dX0_result_51 ⟨Nat.le_of_ble_eq_true rfl, Nat.le_of_ble_eq_true rfl⟩ (fun r12 w10 H locs q11 hP => ?_)
          obtain ⟨rfl, rfl⟩ := q11
          refine lv_goto (tgt := 69) hx hb dX0_result_54 (by decide) ?_
          refine kl_iast hx hb hK hP h5 (by omega) (by omega) dX0_result_69 (fun w13 H locs f14 fr15 hzw13 hP => ?_)
          have h3 : w13 k = some (.inr (0, [.int tb, .ref (B + wi), .ref (B + pi)])) := (fr15 _ (by omega)).trans h3
          have h4 : w13 wi = some (kl_aI G n ((fun j => nI (wd j)))) := (fr15 _ (by omega)).trans h4
          have h0 : w13 i = some (.inr (2, [.ref (B + a), .ref (B + b)])) := (fr15 _ (by omega)).trans h0
          have h1 : w13 a = some (kl_aI G 24 T) := (fr15 _ (by omega)).trans h1
          have h2 : w13 b = some (kl_aI G 96 C) := (fr15 _ (by omega)).trans h2
          have frm : ∀ j : Nat, j ≠ pi → w13 j = w j := fun j k0 => (fr15 j k0).trans (frm j k0)
          refine lv_iinc (v := nI (h - mt_tk (wd u) + 1)) (lv' := [(3, .int (nI (h - mt_tk (wd u) + 1))), (5, .int (nI (mt_tk (wd u)))), (0, .ref (B + k)), (1, .ref (B + i)), (2, .int (nI p)), (4, .int (nI u))]) hx hb dX0_result_70 hl (k := 0) rfl (nI_1 _) (by decide) rfl (fun ls hl => ?_)
          refine lv_iinc (v := nI (u + 1)) (lv' := [(4, .int (nI (u + 1))), (3, .int (nI (h - mt_tk (wd u) + 1))), (5, .int (nI (mt_tk (wd u)))), (0, .ref (B + k)), (1, .ref (B + i)), (2, .int (nI p))]) hx hb dX0_result_73 hl (k := 5) rfl (nI_1 _) (by decide) rfl (fun ls hl => ?_)
          refine lv_goto (tgt := 5) hx hb dX0_result_76 (by decide) ?_
          exact ih5 (u + 1) (h - mt_tk (wd u) + 1) (upd gg (h - mt_tk (wd u)) (mt_lay (fun c => C (4 * p + c)) (wd u))) (by omega) (by first | omega | grind) (by rw [show h - mt_tk (wd u) + 1 = h + 1 - mt_tk (wd u) by omega]; exact hy) (mt_pile_step (mt_hh_eq hh) (by omega) hg (by unfold mt_val; exact (if_pos c39).symm)) _ _ _ h3 h4 f14 h0 h1 h2 frm hP ls (lv_sub hl [3, 4, 5, 1, 0] rfl)
  exact lp5 (n + 1) 0 0 g (Nat.lt_succ_of_le (by omega)) (by first | omega | grind) rfl (fun j hj => absurd hj (Nat.not_lt_zero j)) _ _ _ h3 h4 h5 h0 h1 h2 frm hP ls (lv_sub hl [2, 3, 4, 1, 0] rfl)

abbrev rm_X0_isBroken : Room := { frames := 3, cells := 0, slots := 0, locals := 69 }
set_option maxHeartbeats 4000000 in
set_option maxRecDepth 100000 in
theorem c_X0_isBroken (l : Launch) (G : kl_G) (B : Nat) (w : kl_M) (i a b : Nat) {T C : Nat → Int32} (k wi pi n cols : Nat) {tb : Int32} {wd : Nat → Nat} {g : Nat → Int32} (h3 : w k = some (.inr (0, [.int tb, .ref (B + wi), .ref (B + pi)]))) (h4 : w wi = some (kl_aI G n ((fun j => nI (wd j))))) (h5 : w pi = some (kl_aI G n g)) (h0 : w i = some (.inr (2, [.ref (B + a), .ref (B + b)]))) (h1 : w a = some (kl_aI G 24 T)) (h2 : w b = some (kl_aI G 96 C)) (hrt : mt_right wd cols n) (hc4 : cols ≤ 4) (hw : ∀ j, j < n → mt_wok (wd j)) (hn : n ≤ 10) (npi : pi ≠ k ∧ pi ≠ wi ∧ pi ≠ i ∧ pi ≠ a ∧ pi ≠ b) : Met l yX0_isBroken wsX0_isBroken rm_X0_isBroken (kl_Pc G B w [.ref (B + k), .ref (B + i)]) (kl_Qi G B (fun r w1 => kl_b r (mt_cbrk T C tb wd n) ∧ (∃ g2, w1 pi = some (kl_aI G n g2)) ∧ ∀ j, j ≠ pi → w1 j = w j)) 0 0 (kl_fr B) := by
  refine Met.ofW (cc := cX0_isBroken) (maxL := 3) (ret := (some .boolean)) (by decide) rfl ?_
  intro pg e s m args below meth cd s₁ Bd hml hv
  obtain ⟨rfl, hP0, hK⟩ := hv
  have hx := Bd.exec
  have hb := Bd.bytes
  have hr := Bd.returns
  have hts := atoms_spec (ws := wsX0_isBroken) Bd.pre
  have hown : s.vm.findClass RX0 = some m.cls := findClass_of_methodNamed Bd.named
  have hlocks := Bd.notSynchronized
  have hinX0 : ∀ w ∈ u_ws RX0 TX0 3, w ∈ wsX0_isBroken := by decide +kernel
  have hP := kl_S.rf hP0
  have hl := lv_entry ([.ref (B + k), .ref (B + i)]) (n := 3) (Nat.le_of_ble_eq_true rfl)
  rw [lg_entry_eq]
  generalize (lg_sl ([.ref (B + k), .ref (B + i)]) ++ List.replicate (3 - (lg_sl ([.ref (B + k), .ref (B + i)])).length) Slot.unset).toArray = ls at hl ⊢
  have hl : lv_has ls 3 [(0, .ref (B + k)), (1, .ref (B + i))] := hl
  have frm : ∀ j : Nat, j ≠ pi → w j = w j := fun j _ => rfl
  obtain ⟨n1, n2, n3, n4, n5⟩ := npi
  refine lv_iconst (v := nI 0) hx hb dX0_isBroken_0 (by decide) ?_
  refine lv_istore_n (lv' := [(2, .int (nI 0)), (0, .ref (B + k)), (1, .ref (B + i))]) hx hb dX0_isBroken_1 rfl hl (by decide) rfl (fun ls hl => ?_)
  have lp2 : ∀ (n2 : Nat) (p : Nat) (gg : Nat → Int32), 24 - p < n2 → (p ≤ 24) → (∀ q, q < p → ¬ (T q = tb ∧ mt_ev wd n (fun c => C (4 * q + c)) = 0)) → ∀ (w1 : kl_M) (H : Heap) (locs : List Loc), w1 k = some (.inr (0, [.int tb, .ref (B + wi), .ref (B + pi)])) → w1 wi = some (kl_aI G n ((fun j => nI (wd j)))) → w1 pi = some (kl_aI G n gg) → w1 i = some (.inr (2, [.ref (B + a), .ref (B + b)])) → w1 a = some (kl_aI G 24 T) → w1 b = some (kl_aI G 96 C) → (∀ j : Nat, j ≠ pi → w1 j = w j) → kl_S G B w1 s.heap H locs → ∀ ls : Array Slot, lv_has ls 3 [(0, .ref (B + k)), (1, .ref (B + i)), (2, .int (nI p))] → W pg l e rm_X0_isBroken s m ([.ref (B + k), .ref (B + i)] : List Value).toArray below meth cd H locs (0) (0) (MQ below (kl_Qi G B (fun r w1 => kl_b r (mt_cbrk T C tb wd n) ∧ (∃ g2, w1 pi = some (kl_aI G n g2)) ∧ ∀ j, j ≠ pi → w1 j = w j)) ([.ref (B + k), .ref (B + i)] : List Value).toArray s 0 0 (kl_fr B)) (F0 m 2 ls []) := by
    intro n2
    induction n2 with
    | zero => intro p gg hm; exact absurd hm (Nat.not_lt_zero _)
    | succ n2 ih2 =>
      intro p gg hm hp hno w1 H locs h3 h4 h5 h0 h1 h2 frm hP ls hl
      refine lv_iload_n hx hb dX0_isBroken_2 rfl (lv_at hl 2 rfl) ?_
      refine lv_bipush (v := nI 24) hx hb dX0_isBroken_3 (by decide) ?_
      refine kl_ge (tgt := 37) hx hb (by omega) (by omega) dX0_isBroken_5 (by decide) (fun c5 => ?_) (fun c5 => ?_)
      · refine lv_iconst (v := nI 0) hx hb dX0_isBroken_37 (by decide) ?_
        exact kl_zret hx hb hr hlocks (by decide) hP ⟨kl_b.f (fun ⟨q, hq, z⟩ => hno q (by omega) z), ⟨_, h5⟩, frm⟩ dX0_isBroken_38
      · refine lv_aload_n hx hb dX0_isBroken_8 rfl (lv_at hl 1 rfl) ?_
        refine lv_iload_n hx hb dX0_isBroken_9 rfl (lv_at hl 2 rfl) ?_
        refine lv_aload_n hx hb dX0_isBroken_10 rfl (lv_at hl 0 rfl) ?_
        refine kl_get (C := RX0) (T := TX0) (N := 3) (ci := 0) hx hb hts hinX0 hown hK hP h3 rfl 0 (by decide) (hts (.fieldLink RX0 9 "KinLedger$Check" "table" "I") (by decide +kernel)) (fun _ h9 => h9) rfl dX0_isBroken_11 ?_
        refine kl_cVi (C := RX2) (i := i) (As := [.int (nI p), .int tb]) (rest := []) ⟨hx, hb, hml, hown, hts⟩ (c_X2_holds l G B _ i a b p tb h0 h1 h2 (by omega)) (cwV 2 hts gX0_isBroken_X2_holds rfl rfl rfl (by decide +kernel) ⟨Nat.le_of_ble_eq_true rfl, Nat.le_of_ble_eq_true rfl⟩) hK hP h0 rfl rfl hl.1 rfl (Nat.le_of_ble_eq_true rfl) dX0_isBroken_14 ⟨Nat.le_of_ble_eq_true rfl, Nat.le_of_ble_eq_true rfl⟩ (fun r3 w1 H locs q2 hP => ?_)
        obtain ⟨rfl, hv4⟩ := q2
        refine kl_ifeq (tgt := 31) hx hb hv4 dX0_isBroken_17 (by decide) (fun c17 => ?_) (fun c17 => ?_)
        · refine lv_iinc (v := nI (p + 1)) (lv' := [(2, .int (nI (p + 1))), (0, .ref (B + k)), (1, .ref (B + i))]) hx hb dX0_isBroken_31 hl (k := 2) rfl (nI_1 _) (by decide) rfl (fun ls hl => ?_)
          refine lv_goto (tgt := 2) hx hb dX0_isBroken_34 (by decide) ?_
          exact ih2 (p + 1) gg (by omega) (by first | omega | grind) (lt_s hno (fun z => c17 z.1)) _ _ _ h3 h4 h5 h0 h1 h2 frm hP ls (lv_sub hl [1, 2, 0] rfl)
        · refine lv_aload_n hx hb dX0_isBroken_20 rfl (lv_at hl 0 rfl) ?_
          refine lv_aload_n hx hb dX0_isBroken_21 rfl (lv_at hl 1 rfl) ?_
          refine lv_iload_n hx hb dX0_isBroken_22 rfl (lv_at hl 2 rfl) ?_
          refine kl_cVi (C := RX0) (i := k) (As := [.ref (B + i), .int (nI p)]) (rest := []) ⟨hx, hb, hml, hown, hts⟩ (c_X0_result l G B _ i a b k wi pi n cols p h3 h4 h5 h0 h1 h2 (by omega) hrt hc4 hw  (by omega) (by omega)) (cwV 2 hts gX0_isBroken_X0_result rfl rfl rfl (by decide +kernel) ⟨Nat.le_of_ble_eq_true rfl, Nat.le_of_ble_eq_true rfl⟩) hK hP h3 rfl rfl hl.1 rfl (Nat.le_of_ble_eq_true rfl) dX0_isBroken_23 ⟨Nat.le_of_ble_eq_true rfl, Nat.le_of_ble_eq_true rfl⟩ (fun r7 w5 H locs q6 hP => ?_)
          obtain ⟨rfl, ⟨g8, f9⟩, fr10⟩ := q6
          have h3 : w5 k = some (.inr (0, [.int tb, .ref (B + wi), .ref (B + pi)])) := (fr10 _ (by omega)).trans h3
          have h4 : w5 wi = some (kl_aI G n ((fun j => nI (wd j)))) := (fr10 _ (by omega)).trans h4
          have h0 : w5 i = some (.inr (2, [.ref (B + a), .ref (B + b)])) := (fr10 _ (by omega)).trans h0
          have h1 : w5 a = some (kl_aI G 24 T) := (fr10 _ (by omega)).trans h1
          have h2 : w5 b = some (kl_aI G 96 C) := (fr10 _ (by omega)).trans h2
          have frm : ∀ j : Nat, j ≠ pi → w5 j = w j := fun j k0 => (fr10 j k0).trans (frm j k0)
          refine lv_if_ne (tgt := 31) hx hb dX0_isBroken_26 (by decide) (fun c26 => ?_) (fun c26 => ?_)
          · refine lv_iinc (v := nI (p + 1)) (lv' := [(2, .int (nI (p + 1))), (0, .ref (B + k)), (1, .ref (B + i))]) hx hb dX0_isBroken_31 hl (k := 2) rfl (nI_1 _) (by decide) rfl (fun ls hl => ?_)
            refine lv_goto (tgt := 2) hx hb dX0_isBroken_34 (by decide) ?_
            exact ih2 (p + 1) g8 (by omega) (by first | omega | grind) (lt_s hno (fun z => c26 z.2)) _ _ _ h3 h4 f9 h0 h1 h2 frm hP ls (lv_sub hl [1, 2, 0] rfl)
          · refine lv_iconst (v := nI 1) hx hb dX0_isBroken_29 (by decide) ?_
            exact kl_zret hx hb hr hlocks (by decide) hP ⟨kl_b.t ⟨p, by omega, c17, c26⟩, ⟨_, f9⟩, frm⟩ dX0_isBroken_30
  exact lp2 (24 + 1) 0 g (Nat.lt_succ_of_le (by omega)) (by first | omega | grind) lt_0 _ _ _ h3 h4 h5 h0 h1 h2 frm hP ls (lv_sub hl [1, 2, 0] rfl)
