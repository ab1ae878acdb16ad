abbrev rm_X2_holds : Room := { frames := 0, cells := 0, slots := 0, locals := 0 }
set_option maxHeartbeats 4000000 in
set_option maxRecDepth 100000 in
theorem c_X2_holds (l : Launch) (G : kl_G) (B : Nat) (w : kl_M) (i a b : Nat) {T C : Nat → Int32} (p : Nat) (t : Int32) (h0 : w i = some (.inr (2, [.ref (B + a), .ref (B + b)]))) (h1 : w a = some (kl_aI G 24 T)) (h2 : w b = some (kl_aI G 96 C)) (hp : p < 24) : Met l yX2_holds wsX2_holds rm_X2_holds (kl_Pc G B w [.ref (B + i), .int (nI p), .int t]) (kl_Qi G B (fun r w1 => w = w1 ∧ kl_b r (T p = t))) 0 0 (kl_fr B) := by
  refine Met.ofW (cc := cX2_holds) (maxL := 3) (ret := (some .boolean)) (by decide) rfl ?_
  intro pg e s m args below meth cd s₁ Bd hml hv
  obtain ⟨rfl, hP0, hK⟩ := hv
  have hx := Bd.exec
  have hb := Bd.bytes
  have hr := Bd.returns
  have hts := atoms_spec (ws := wsX2_holds) Bd.pre
  have hown : s.vm.findClass RX2 = some m.cls := findClass_of_methodNamed Bd.named
  have hlocks := Bd.notSynchronized
  have hinX2 : ∀ w ∈ u_ws RX2 TX2 2, w ∈ wsX2_holds := by decide +kernel
  have hP := kl_S.rf hP0
  have hl := lv_entry ([.ref (B + i), .int (nI p), .int t]) (n := 3) (Nat.le_of_ble_eq_true rfl)
  rw [lg_entry_eq]
  generalize (lg_sl ([.ref (B + i), .int (nI p), .int t]) ++ List.replicate (3 - (lg_sl ([.ref (B + i), .int (nI p), .int t])).length) Slot.unset).toArray = ls at hl ⊢
  have hl : lv_has ls 3 [(0, .ref (B + i)), (1, .int (nI p)), (2, .int t)] := hl
  refine lv_aload_n hx hb dX2_holds_0 rfl (lv_at hl 0 rfl) ?_
  refine kl_get (C := RX2) (T := TX2) (N := 2) (ci := 2) hx hb hts hinX2 hown hK hP h0 rfl 0 (by decide) (hts (.fieldLink RX2 9 "KinLedger$Rows" "tables" "[I") (by decide +kernel)) (fun _ h9 => h9) rfl dX2_holds_1 ?_
  refine lv_iload_n hx hb dX2_holds_4 rfl (lv_at hl 1 rfl) ?_
  refine kl_iald hx hb hK hP h1 (by omega) (by omega) dX2_holds_5 ?_
  refine lv_iload_n hx hb dX2_holds_6 rfl (lv_at hl 2 rfl) ?_
  refine lv_icmp_ne (tgt := 14) hx hb dX2_holds_7 (by decide) (fun c7 => ?_) (fun c7 => ?_)
  · refine lv_iconst (v := nI 0) hx hb dX2_holds_14 (by decide) ?_
    exact kl_zret hx hb hr hlocks (by decide) hP ⟨rfl, kl_b.f c7⟩ dX2_holds_15
  · refine lv_iconst (v := nI 1) hx hb dX2_holds_10 (by decide) ?_
    refine lv_goto (tgt := 15) hx hb dX2_holds_11 (by decide) ?_
    exact kl_zret hx hb hr hlocks (by decide) hP ⟨rfl, kl_b.t c7⟩ dX2_holds_15

abbrev rm_X2_at : Room := { frames := 0, cells := 0, slots := 0, locals := 0 }
set_option maxHeartbeats 4000000 in
set_option maxRecDepth 100000 in
theorem c_X2_at (l : Launch) (G : kl_G) (B : Nat) (w : kl_M) (i a b : Nat) {T C : Nat → Int32} (p c : Nat) (h0 : w i = some (.inr (2, [.ref (B + a), .ref (B + b)]))) (h1 : w a = some (kl_aI G 24 T)) (h2 : w b = some (kl_aI G 96 C)) (hp : p < 24) (hc : c < 4) : Met l yX2_at wsX2_at rm_X2_at (kl_Pc G B w [.ref (B + i), .int (nI p), .int (nI c)]) (kl_Qi G B (fun r w1 => w = w1 ∧ r = C (4 * p + c))) 0 0 (kl_fr B) := by
  refine Met.ofW (cc := cX2_at) (maxL := 3) (ret := (some .int)) (by decide) rfl ?_
  intro pg e s m args below meth cd s₁ Bd hml hv
  obtain ⟨rfl, hP0, hK⟩ := hv
  have hx := Bd.exec
  have hb := Bd.bytes
  have hr := Bd.returns
  have hts := atoms_spec (ws := wsX2_at) Bd.pre
  have hown : s.vm.findClass RX2 = some m.cls := findClass_of_methodNamed Bd.named
  have hlocks := Bd.notSynchronized
  have hinX2 : ∀ w ∈ u_ws RX2 TX2 2, w ∈ wsX2_at := by decide +kernel
  have hP := kl_S.rf hP0
  have hl := lv_entry ([.ref (B + i), .int (nI p), .int (nI c)]) (n := 3) (Nat.le_of_ble_eq_true rfl)
  rw [lg_entry_eq]
  generalize (lg_sl ([.ref (B + i), .int (nI p), .int (nI c)]) ++ List.replicate (3 - (lg_sl ([.ref (B + i), .int (nI p), .int (nI c)])).length) Slot.unset).toArray = ls at hl ⊢
  have hl : lv_has ls 3 [(0, .ref (B + i)), (1, .int (nI p)), (2, .int (nI c))] := hl
  refine lv_aload_n hx hb dX2_at_0 rfl (lv_at hl 0 rfl) ?_
  refine kl_get (C := RX2) (T := TX2) (N := 2) (ci := 2) hx hb hts hinX2 hown hK hP h0 rfl 1 (by decide) (hts (.fieldLink RX2 15 "KinLedger$Rows" "cells" "[I") (by decide +kernel)) (fun _ h9 => h9) rfl dX2_at_1 ?_
  refine lv_iload_n hx hb dX2_at_4 rfl (lv_at hl 1 rfl) ?_
  refine lv_iconst (v := nI 4) hx hb dX2_at_5 (by decide) ?_
  refine lv_imul hx hb dX2_at_6 ?_
  refine kl_top (z := nI (4 * p)) ((pk_mul _ _).trans (congrArg nI (Nat.mul_comm _ _))) ?_
  refine lv_iload_n hx hb dX2_at_7 rfl (lv_at hl 2 rfl) ?_
  refine lv_iadd hx hb dX2_at_8 ?_
  refine kl_top (z := nI (4 * p + c)) (by first | exact nI_add _ _ | (rw [nI_add]; first | rfl | (congr 1; omega))) ?_
  refine kl_iald hx hb hK hP h2 (by omega) (by omega) dX2_at_9 ?_
  exact kl_iret hx hb hr hlocks hP ⟨rfl, rfl⟩ dX2_at_10

abbrev rm_X2_put : Room := { frames := 0, cells := 0, slots := 0, locals := 0 }
set_option maxHeartbeats 4000000 in
set_option maxRecDepth 100000 in
theorem c_X2_put (l : Launch) (G : kl_G) (B : Nat) (w : kl_M) (i a b : Nat) {T C : Nat → Int32} (p c : Nat) (x : Int32) (h0 : w i = some (.inr (2, [.ref (B + a), .ref (B + b)]))) (h1 : w a = some (kl_aI G 24 T)) (h2 : w b = some (kl_aI G 96 C)) (hp : p < 24) (hc : c < 4) (nib : i ≠ b) (nab : a ≠ b) : Met l yX2_put wsX2_put rm_X2_put (kl_Pc G B w [.ref (B + i), .int (nI p), .int (nI c), .int x]) (kl_Qv G B (fun w1 => w1 b = some (kl_aI G 96 (upd C (4 * p + c) x)) ∧ ∀ j, j ≠ b → w1 j = w j)) 0 0 (kl_fr B) := by
  refine Met.ofW (cc := cX2_put) (maxL := 4) (ret := none) (by decide) rfl ?_
  intro pg e s m args below meth cd s₁ Bd hml hv
  obtain ⟨rfl, hP0, hK⟩ := hv
  have hx := Bd.exec
  have hb := Bd.bytes
  have hr := Bd.returns
  have hts := atoms_spec (ws := wsX2_put) Bd.pre
  have hown : s.vm.findClass RX2 = some m.cls := findClass_of_methodNamed Bd.named
  have hlocks := Bd.notSynchronized
  have hinX2 : ∀ w ∈ u_ws RX2 TX2 2, w ∈ wsX2_put := by decide +kernel
  have hP := kl_S.rf hP0
  have hl := lv_entry ([.ref (B + i), .int (nI p), .int (nI c), .int x]) (n := 4) (Nat.le_of_ble_eq_true rfl)
  rw [lg_entry_eq]
  generalize (lg_sl ([.ref (B + i), .int (nI p), .int (nI c), .int x]) ++ List.replicate (4 - (lg_sl ([.ref (B + i), .int (nI p), .int (nI c), .int x])).length) Slot.unset).toArray = ls at hl ⊢
  have hl : lv_has ls 4 [(0, .ref (B + i)), (1, .int (nI p)), (2, .int (nI c)), (3, .int x)] := hl
  refine lv_aload_n hx hb dX2_put_0 rfl (lv_at hl 0 rfl) ?_
  refine kl_get (C := RX2) (T := TX2) (N := 2) (ci := 2) hx hb hts hinX2 hown hK hP h0 rfl 1 (by decide) (hts (.fieldLink RX2 15 "KinLedger$Rows" "cells" "[I") (by decide +kernel)) (fun _ h9 => h9) rfl dX2_put_1 ?_
  refine lv_iload_n hx hb dX2_put_4 rfl (lv_at hl 1 rfl) ?_
  refine lv_iconst (v := nI 4) hx hb dX2_put_5 (by decide) ?_
  refine lv_imul hx hb dX2_put_6 ?_
  refine kl_top (z := nI (4 * p)) ((pk_mul _ _).trans (congrArg nI (Nat.mul_comm _ _))) ?_
  refine lv_iload_n hx hb dX2_put_7 rfl (lv_at hl 2 rfl) ?_
  refine lv_iadd hx hb dX2_put_8 ?_
  refine kl_top (z := nI (4 * p + c)) (by first | exact nI_add _ _ | (rw [nI_add]; first | rfl | (congr 1; omega))) ?_
  refine lv_iload_n hx hb dX2_put_9 rfl (lv_at hl 3 rfl) ?_
  refine kl_iast hx hb hK hP h2 (by omega) (by omega) dX2_put_10 (fun w1 H locs f2 fr3 hzw1 hP => ?_)
  have h0 : w1 i = some (.inr (2, [.ref (B + a), .ref (B + b)])) := (fr3 _ (by omega)).trans h0
  have h1 : w1 a = some (kl_aI G 24 T) := (fr3 _ (by omega)).trans h1
  exact kl_vret hx hb hr hlocks hP ⟨f2, fr3⟩ dX2_put_11

abbrev rm_X2_add : Room := { frames := 0, cells := 0, slots := 0, locals := 0 }
set_option maxHeartbeats 4000000 in
set_option maxRecDepth 100000 in
theorem c_X2_add (l : Launch) (G : kl_G) (B : Nat) (w : kl_M) (i a b : Nat) {T C : Nat → Int32} (p : Nat) (t : Int32) (h0 : w i = some (.inr (2, [.ref (B + a), .ref (B + b)]))) (h1 : w a = some (kl_aI G 24 T)) (h2 : w b = some (kl_aI G 96 C)) (hp : p < 24) (nia : i ≠ a) (nba : b ≠ a) : Met l yX2_add wsX2_add rm_X2_add (kl_Pc G B w [.ref (B + i), .int (nI p), .int t]) (kl_Qv G B (fun w1 => w1 a = some (kl_aI G 24 (upd T p t)) ∧ ∀ j, j ≠ a → w1 j = w j)) 0 0 (kl_fr B) := by
  refine Met.ofW (cc := cX2_add) (maxL := 3) (ret := none) (by decide) rfl ?_
  intro pg e s m args below meth cd s₁ Bd hml hv
  obtain ⟨rfl, hP0, hK⟩ := hv
  have hx := Bd.exec
  have hb := Bd.bytes
  have hr := Bd.returns
  have hts := atoms_spec (ws := wsX2_add) Bd.pre
  have hown : s.vm.findClass RX2 = some m.cls := findClass_of_methodNamed Bd.named
  have hlocks := Bd.notSynchronized
  have hinX2 : ∀ w ∈ u_ws RX2 TX2 2, w ∈ wsX2_add := by decide +kernel
  have hP := kl_S.rf hP0
  have hl := lv_entry ([.ref (B + i), .int (nI p), .int t]) (n := 3) (Nat.le_of_ble_eq_true rfl)
  rw [lg_entry_eq]
  generalize (lg_sl ([.ref (B + i), .int (nI p), .int t]) ++ List.replicate (3 - (lg_sl ([.ref (B + i), .int (nI p), .int t])).length) Slot.unset).toArray = ls at hl ⊢
  have hl : lv_has ls 3 [(0, .ref (B + i)), (1, .int (nI p)), (2, .int t)] := hl
  refine lv_aload_n hx hb dX2_add_0 rfl (lv_at hl 0 rfl) ?_
  refine kl_get (C := RX2) (T := TX2) (N := 2) (ci := 2) hx hb hts hinX2 hown hK hP h0 rfl 0 (by decide) (hts (.fieldLink RX2 9 "KinLedger$Rows" "tables" "[I") (by decide +kernel)) (fun _ h9 => h9) rfl dX2_add_1 ?_
  refine lv_iload_n hx hb dX2_add_4 rfl (lv_at hl 1 rfl) ?_
  refine lv_iload_n hx hb dX2_add_5 rfl (lv_at hl 2 rfl) ?_
  refine kl_iast hx hb hK hP h1 (by omega) (by omega) dX2_add_6 (fun w1 H locs f2 fr3 hzw1 hP => ?_)
  have h0 : w1 i = some (.inr (2, [.ref (B + a), .ref (B + b)])) := (fr3 _ (by omega)).trans h0
  have h2 : w1 b = some (kl_aI G 96 C) := (fr3 _ (by omega)).trans h2
  exact kl_vret hx hb hr hlocks hP ⟨f2, fr3⟩ dX2_add_7

abbrev rm_X2_remove : Room := { frames := 0, cells := 0, slots := 0, locals := 0 }
set_option maxHeartbeats 4000000 in
set_option maxRecDepth 100000 in
theorem c_X2_remove (l : Launch) (G : kl_G) (B : Nat) (w : kl_M) (i a b : Nat) {T C : Nat → Int32} (p : Nat) (h0 : w i = some (.inr (2, [.ref (B + a), .ref (B + b)]))) (h1 : w a = some (kl_aI G 24 T)) (h2 : w b = some (kl_aI G 96 C)) (hp : p < 24) (nia : i ≠ a) (nba : b ≠ a) : Met l yX2_remove wsX2_remove rm_X2_remove (kl_Pc G B w [.ref (B + i), .int (nI p)]) (kl_Qv G B (fun w1 => w1 a = some (kl_aI G 24 (upd T p (-1))) ∧ ∀ j, j ≠ a → w1 j = w j)) 0 0 (kl_fr B) := by
  refine Met.ofW (cc := cX2_remove) (maxL := 2) (ret := none) (by decide) rfl ?_
  intro pg e s m args below meth cd s₁ Bd hml hv
  obtain ⟨rfl, hP0, hK⟩ := hv
  have hx := Bd.exec
  have hb := Bd.bytes
  have hr := Bd.returns
  have hts := atoms_spec (ws := wsX2_remove) Bd.pre
  have hown : s.vm.findClass RX2 = some m.cls := findClass_of_methodNamed Bd.named
  have hlocks := Bd.notSynchronized
  have hinX2 : ∀ w ∈ u_ws RX2 TX2 2, w ∈ wsX2_remove := by decide +kernel
  have hP := kl_S.rf hP0
  have hl := lv_entry ([.ref (B + i), .int (nI p)]) (n := 2) (Nat.le_of_ble_eq_true rfl)
  rw [lg_entry_eq]
  generalize (lg_sl ([.ref (B + i), .int (nI p)]) ++ List.replicate (2 - (lg_sl ([.ref (B + i), .int (nI p)])).length) Slot.unset).toArray = ls at hl ⊢
  have hl : lv_has ls 2 [(0, .ref (B + i)), (1, .int (nI p))] := hl
  refine lv_aload_n hx hb dX2_remove_0 rfl (lv_at hl 0 rfl) ?_
  refine kl_get (C := RX2) (T := TX2) (N := 2) (ci := 2) hx hb hts hinX2 hown hK hP h0 rfl 0 (by decide) (hts (.fieldLink RX2 9 "KinLedger$Rows" "tables" "[I") (by decide +kernel)) (fun _ h9 => h9) rfl dX2_remove_1 ?_
  refine lv_iload_n hx hb dX2_remove_4 rfl (lv_at hl 1 rfl) ?_
  refine lv_iconst (v := (-1)) hx hb dX2_remove_5 (by decide) ?_
  refine kl_iast hx hb hK hP h1 (by omega) (by omega) dX2_remove_6 (fun w1 H locs f2 fr3 hzw1 hP => ?_)
  have h0 : w1 i = some (.inr (2, [.ref (B + a), .ref (B + b)])) := (fr3 _ (by omega)).trans h0
  have h2 : w1 b = some (kl_aI G 96 C) := (fr3 _ (by omega)).trans h2
  exact kl_vret hx hb hr hlocks hP ⟨f2, fr3⟩ dX2_remove_7

abbrev rm_X2_freePlace : Room := { frames := 0, cells := 0, slots := 0, locals := 0 }
set_option maxHeartbeats 4000000 in
set_option maxRecDepth 100000 in
theorem c_X2_freePlace (l : Launch) (G : kl_G) (B : Nat) (w : kl_M) (i a b : Nat) {T C : Nat → Int32} (h0 : w i = some (.inr (2, [.ref (B + a), .ref (B + b)]))) (h1 : w a = some (kl_aI G 24 T)) (h2 : w b = some (kl_aI G 96 C))  : Met l yX2_freePlace wsX2_freePlace rm_X2_freePlace (kl_Pc G B w [.ref (B + i)]) (kl_Qi G B (fun r w1 => w = w1 ∧ mt_free T r)) 0 0 (kl_fr B) := by
  refine Met.ofW (cc := cX2_freePlace) (maxL := 2) (ret := (some .int)) (by decide) rfl ?_
  intro pg e s m args below meth cd s₁ Bd hml hv
  obtain ⟨rfl, hP0, hK⟩ := hv
  have hx := Bd.exec
  have hb := Bd.bytes
  have hr := Bd.returns
  have hts := atoms_spec (ws := wsX2_freePlace) Bd.pre
  have hown : s.vm.findClass RX2 = some m.cls := findClass_of_methodNamed Bd.named
  have hlocks := Bd.notSynchronized
  have hinX2 : ∀ w ∈ u_ws RX2 TX2 2, w ∈ wsX2_freePlace := by decide +kernel
  have hP := kl_S.rf hP0
  have hl := lv_entry ([.ref (B + i)]) (n := 2) (Nat.le_of_ble_eq_true rfl)
  rw [lg_entry_eq]
  generalize (lg_sl ([.ref (B + i)]) ++ List.replicate (2 - (lg_sl ([.ref (B + i)])).length) Slot.unset).toArray = ls at hl ⊢
  have hl : lv_has ls 2 [(0, .ref (B + i))] := hl
  refine lv_iconst (v := nI 0) hx hb dX2_freePlace_0 (by decide) ?_
  refine lv_istore_n (lv' := [(1, .int (nI 0)), (0, .ref (B + i))]) hx hb dX2_freePlace_1 rfl hl (by decide) rfl (fun ls hl => ?_)
  have lp2 : ∀ (n2 : Nat) (p : Nat), 24 - p < n2 → (p ≤ 24) → (∀ q, q < p → ¬ T q = -1) → ∀ (H : Heap) (locs : List Loc), kl_S G B w s.heap H locs → ∀ ls : Array Slot, lv_has ls 2 [(0, .ref (B + i)), (1, .int (nI p))] → W pg l e rm_X2_freePlace s m ([.ref (B + i)] : List Value).toArray below meth cd H locs (0) (0) (MQ below (kl_Qi G B (fun r w1 => w = w1 ∧ mt_free T r)) ([.ref (B + i)] : List Value).toArray s 0 0 (kl_fr B)) (F0 m 2 ls []) := by
    intro n2
    induction n2 with
    | zero => intro p hm; exact absurd hm (Nat.not_lt_zero _)
    | succ n2 ih2 =>
      intro p hm hp hno H locs  hP ls hl
      refine lv_iload_n hx hb dX2_freePlace_2 rfl (lv_at hl 1 rfl) ?_
      refine lv_bipush (v := nI 24) hx hb dX2_freePlace_3 (by decide) ?_
      refine kl_ge (tgt := 26) hx hb (by omega) (by omega) dX2_freePlace_5 (by decide) (fun c5 => ?_) (fun c5 => ?_)
      · refine lv_iconst (v := (-1)) hx hb dX2_freePlace_26 (by decide) ?_
        exact kl_iret hx hb hr hlocks hP ⟨rfl, Or.inl ⟨rfl, fun q hq => hno q (by omega)⟩⟩ dX2_freePlace_27
      · refine lv_aload_n hx hb dX2_freePlace_8 rfl (lv_at hl 0 rfl) ?_
        refine kl_get (C := RX2) (T := TX2) (N := 2) (ci := 2) hx hb hts hinX2 hown hK hP h0 rfl 0 (by decide) (hts (.fieldLink RX2 9 "KinLedger$Rows" "tables" "[I") (by decide +kernel)) (fun _ h9 => h9) rfl dX2_freePlace_9 ?_
        refine lv_iload_n hx hb dX2_freePlace_12 rfl (lv_at hl 1 rfl) ?_
        refine kl_iald hx hb hK hP h1 (by omega) (by omega) dX2_freePlace_13 ?_
        refine lv_iconst (v := (-1)) hx hb dX2_freePlace_14 (by decide) ?_
        refine lv_icmp_ne (tgt := 20) hx hb dX2_freePlace_15 (by decide) (fun c15 => ?_) (fun c15 => ?_)
        · refine lv_iinc (v := nI (p + 1)) (lv' := [(1, .int (nI (p + 1))), (0, .ref (B + i))]) hx hb dX2_freePlace_20 hl (k := 1) rfl (nI_1 _) (by decide) rfl (fun ls hl => ?_)
          refine lv_goto (tgt := 2) hx hb dX2_freePlace_23 (by decide) ?_
          exact ih2 (p + 1) (by omega) (by first | omega | grind) (by first | omega | grind) _ _ hP ls (lv_sub hl [1, 0] rfl)
        · refine lv_iload_n hx hb dX2_freePlace_18 rfl (lv_at hl 1 rfl) ?_
          exact kl_iret hx hb hr hlocks hP ⟨rfl, Or.inr ⟨p, by omega, rfl, c15⟩⟩ dX2_freePlace_19
  exact lp2 (24 + 1) 0 (Nat.lt_succ_of_le (by omega)) (by first | omega | grind) (by first | omega | grind) _ _ hP ls (lv_sub hl [1, 0] rfl)

abbrev rm_X2_size : Room := { frames := 0, cells := 0, slots := 0, locals := 0 }
set_option maxHeartbeats 4000000 in
set_option maxRecDepth 100000 in
theorem c_X2_size (l : Launch) (G : kl_G) (B : Nat) (w : kl_M) (i a b : Nat) {T C : Nat → Int32} (t : Int32) (h0 : w i = some (.inr (2, [.ref (B + a), .ref (B + b)]))) (h1 : w a = some (kl_aI G 24 T)) (h2 : w b = some (kl_aI G 96 C))  : Met l yX2_size wsX2_size rm_X2_size (kl_Pc G B w [.ref (B + i), .int t]) (kl_Qi G B (fun r w1 => w = w1 ∧ r = nI (mt_ct (fun q => T q = t) 24))) 0 0 (kl_fr B) := by
  refine Met.ofW (cc := cX2_size) (maxL := 4) (ret := (some .int)) (by decide) rfl ?_
  intro pg e s m args below meth cd s₁ Bd hml hv
  obtain ⟨rfl, hP0, hK⟩ := hv
  have hx := Bd.exec
  have hb := Bd.bytes
  have hr := Bd.returns
  have hts := atoms_spec (ws := wsX2_size) Bd.pre
  have hown : s.vm.findClass RX2 = some m.cls := findClass_of_methodNamed Bd.named
  have hlocks := Bd.notSynchronized
  have hinX2 : ∀ w ∈ u_ws RX2 TX2 2, w ∈ wsX2_size := by decide +kernel
  have hP := kl_S.rf hP0
  have hl := lv_entry ([.ref (B + i), .int t]) (n := 4) (Nat.le_of_ble_eq_true rfl)
  rw [lg_entry_eq]
  generalize (lg_sl ([.ref (B + i), .int t]) ++ List.replicate (4 - (lg_sl ([.ref (B + i), .int t])).length) Slot.unset).toArray = ls at hl ⊢
  have hl : lv_has ls 4 [(0, .ref (B + i)), (1, .int t)] := hl
  refine lv_iconst (v := nI 0) hx hb dX2_size_0 (by decide) ?_
  refine lv_istore_n (lv' := [(2, .int (nI 0)), (0, .ref (B + i)), (1, .int t)]) hx hb dX2_size_1 rfl hl (by decide) rfl (fun ls hl => ?_)
  refine lv_iconst (v := nI 0) hx hb dX2_size_2 (by decide) ?_
  refine lv_istore_n (lv' := [(3, .int (nI 0)), (2, .int (nI 0)), (0, .ref (B + i)), (1, .int t)]) hx hb dX2_size_3 rfl hl (by decide) rfl (fun ls hl => ?_)
  have lp4 : ∀ (n4 : Nat) (p : Nat) (k : Nat), 24 - p < n4 → (p ≤ 24) → (k = mt_ct (fun q => T q = t) p) → ∀ (H : Heap) (locs : List Loc), kl_S G B w s.heap H locs → ∀ ls : Array Slot, lv_has ls 4 [(0, .ref (B + i)), (1, .int t), (2, .int (nI k)), (3, .int (nI p))] → W pg l e rm_X2_size s m ([.ref (B + i), .int t] : List Value).toArray below meth cd H locs (0) (0) (MQ below (kl_Qi G B (fun r w1 => w = w1 ∧ r = nI (mt_ct (fun q => T q = t) 24))) ([.ref (B + i), .int t] : List Value).toArray s 0 0 (kl_fr B)) (F0 m 4 ls []) := by
    intro n4
    induction n4 with
    | zero => intro p k hm; exact absurd hm (Nat.not_lt_zero _)
    | succ n4 ih4 =>
      intro p k hm hp hk H locs  hP ls hl
      refine lv_iload_n hx hb dX2_size_4 rfl (lv_at hl 3 rfl) ?_
      refine lv_bipush (v := nI 24) hx hb dX2_size_5 (by decide) ?_
      refine kl_ge (tgt := 29) hx hb (by omega) (by omega) dX2_size_7 (by decide) (fun c7 => ?_) (fun c7 => ?_)
      · refine lv_iload_n hx hb dX2_size_29 rfl (lv_at hl 2 rfl) ?_
        exact kl_iret hx hb hr hlocks hP ⟨rfl, by rw [hk, show p = 24 by omega]⟩ dX2_size_30
      · refine lv_aload_n hx hb dX2_size_10 rfl (lv_at hl 0 rfl) ?_
        refine kl_get (C := RX2) (T := TX2) (N := 2) (ci := 2) hx hb hts hinX2 hown hK hP h0 rfl 0 (by decide) (hts (.fieldLink RX2 9 "KinLedger$Rows" "tables" "[I") (by decide +kernel)) (fun _ h9 => h9) rfl dX2_size_11 ?_
        refine lv_iload_n hx hb dX2_size_14 rfl (lv_at hl 3 rfl) ?_
        refine kl_iald hx hb hK hP h1 (by omega) (by omega) dX2_size_15 ?_
        refine lv_iload_n hx hb dX2_size_16 rfl (lv_at hl 1 rfl) ?_
        refine lv_icmp_ne (tgt := 23) hx hb dX2_size_17 (by decide) (fun c17 => ?_) (fun c17 => ?_)
        · refine lv_iinc (v := nI (p + 1)) (lv' := [(3, .int (nI (p + 1))), (0, .ref (B + i)), (1, .int t), (2, .int (nI k))]) hx hb dX2_size_23 hl (k := 3) rfl (nI_1 _) (by decide) rfl (fun ls hl => ?_)
          refine lv_goto (tgt := 4) hx hb dX2_size_26 (by decide) ?_
          exact ih4 (p + 1) k (by omega) (by first | omega | grind) (by rw [mt_ct_n c17, ← hk]) _ _ hP ls (lv_sub hl [1, 2, 3, 0] rfl)
        · refine lv_iinc (v := nI (k + 1)) (lv' := [(2, .int (nI (k + 1))), (0, .ref (B + i)), (1, .int t), (3, .int (nI p))]) hx hb dX2_size_20 hl (k := 2) rfl (nI_1 _) (by decide) rfl (fun ls hl => ?_)
          refine lv_iinc (v := nI (p + 1)) (lv' := [(3, .int (nI (p + 1))), (2, .int (nI (k + 1))), (0, .ref (B + i)), (1, .int t)]) hx hb dX2_size_23 hl (k := 3) rfl (nI_1 _) (by decide) rfl (fun ls hl => ?_)
          refine lv_goto (tgt := 4) hx hb dX2_size_26 (by decide) ?_
          exact ih4 (p + 1) (k + 1) (by omega) (by first | omega | grind) (by rw [mt_ct_y c17, ← hk]) _ _ hP ls (lv_sub hl [2, 3, 1, 0] rfl)
  exact lp4 (24 + 1) 0 0 (Nat.lt_succ_of_le (by omega)) (by first | omega | grind) rfl _ _ hP ls (lv_sub hl [2, 3, 1, 0] rfl)

abbrev rm_X2_find : Room := { frames := 1, cells := 0, slots := 0, locals := 22 }
set_option maxHeartbeats 4000000 in
set_option maxRecDepth 100000 in
theorem c_X2_find (l : Launch) (G : kl_G) (B : Nat) (w : kl_M) (i a b : Nat) {T C : Nat → Int32} (t k : Int32) (h0 : w i = some (.inr (2, [.ref (B + a), .ref (B + b)]))) (h1 : w a = some (kl_aI G 24 T)) (h2 : w b = some (kl_aI G 96 C))  : Met l yX2_find wsX2_find rm_X2_find (kl_Pc G B w [.ref (B + i), .int t, .int k]) (kl_Qi G B (fun r w1 => w = w1 ∧ mt_find T C t k r)) 0 0 (kl_fr B) := by
  refine Met.ofW (cc := cX2_find) (maxL := 4) (ret := (some .int)) (by decide) rfl ?_
  intro pg e s m args below meth cd s₁ Bd hml hv
  obtain ⟨rfl, hP0, hK⟩ := hv
  have hx := Bd.exec
  have hb := Bd.bytes
  have hr := Bd.returns
  have hts := atoms_spec (ws := wsX2_find) Bd.pre
  have hown : s.vm.findClass RX2 = some m.cls := findClass_of_methodNamed Bd.named
  have hlocks := Bd.notSynchronized
  have hinX2 : ∀ w ∈ u_ws RX2 TX2 2, w ∈ wsX2_find := by decide +kernel
  have hP := kl_S.rf hP0
  have hl := lv_entry ([.ref (B + i), .int t, .int k]) (n := 4) (Nat.le_of_ble_eq_true rfl)
  rw [lg_entry_eq]
  generalize (lg_sl ([.ref (B + i), .int t, .int k]) ++ List.replicate (4 - (lg_sl ([.ref (B + i), .int t, .int k])).length) Slot.unset).toArray = ls at hl ⊢
  have hl : lv_has ls 4 [(0, .ref (B + i)), (1, .int t), (2, .int k)] := hl
  refine lv_iconst (v := nI 0) hx hb dX2_find_0 (by decide) ?_
  refine lv_istore_n (lv' := [(3, .int (nI 0)), (0, .ref (B + i)), (1, .int t), (2, .int k)]) hx hb dX2_find_1 rfl hl (by decide) rfl (fun ls hl => ?_)
  have lp2 : ∀ (n2 : Nat) (p : Nat), 24 - p < n2 → (p ≤ 24) → (∀ q, q < p → ¬ (T q = t ∧ C (4 * q) = k)) → ∀ (H : Heap) (locs : List Loc), kl_S G B w s.heap H locs → ∀ ls : Array Slot, lv_has ls 4 [(0, .ref (B + i)), (1, .int t), (2, .int k), (3, .int (nI p))] → W pg l e rm_X2_find s m ([.ref (B + i), .int t, .int k] : List Value).toArray below meth cd H locs (0) (0) (MQ below (kl_Qi G B (fun r w1 => w = w1 ∧ mt_find T C t k r)) ([.ref (B + i), .int t, .int k] : List Value).toArray s 0 0 (kl_fr B)) (F0 m 2 ls []) := by
    intro n2
    induction n2 with
    | zero => intro p hm; exact absurd hm (Nat.not_lt_zero _)
    | succ n2 ih2 =>
      intro p hm hp hno H locs  hP ls hl
      refine lv_iload_n hx hb dX2_find_2 rfl (lv_at hl 3 rfl) ?_
      refine lv_bipush (v := nI 24) hx hb dX2_find_3 (by decide) ?_
      refine kl_ge (tgt := 36) hx hb (by omega) (by omega) dX2_find_5 (by decide) (fun c5 => ?_) (fun c5 => ?_)
      · refine lv_iconst (v := (-1)) hx hb dX2_find_36 (by decide) ?_
        exact kl_iret hx hb hr hlocks hP ⟨rfl, Or.inl ⟨rfl, fun q hq => hno q (by omega)⟩⟩ dX2_find_37
      · refine lv_aload_n hx hb dX2_find_8 rfl (lv_at hl 0 rfl) ?_
        refine kl_get (C := RX2) (T := TX2) (N := 2) (ci := 2) hx hb hts hinX2 hown hK hP h0 rfl 0 (by decide) (hts (.fieldLink RX2 9 "KinLedger$Rows" "tables" "[I") (by decide +kernel)) (fun _ h9 => h9) rfl dX2_find_9 ?_
        refine lv_iload_n hx hb dX2_find_12 rfl (lv_at hl 3 rfl) ?_
        refine kl_iald hx hb hK hP h1 (by omega) (by omega) dX2_find_13 ?_
        refine lv_iload_n hx hb dX2_find_14 rfl (lv_at hl 1 rfl) ?_
        refine lv_icmp_ne (tgt := 30) hx hb dX2_find_15 (by decide) (fun c15 => ?_) (fun c15 => ?_)
        · refine lv_iinc (v := nI (p + 1)) (lv' := [(3, .int (nI (p + 1))), (0, .ref (B + i)), (1, .int t), (2, .int k)]) hx hb dX2_find_30 hl (k := 3) rfl (nI_1 _) (by decide) rfl (fun ls hl => ?_)
          refine lv_goto (tgt := 2) hx hb dX2_find_33 (by decide) ?_
          exact ih2 (p + 1) (by omega) (by first | omega | grind) (by first | omega | grind) _ _ hP ls (lv_sub hl [1, 2, 3, 0] rfl)
        · refine lv_aload_n hx hb dX2_find_18 rfl (lv_at hl 0 rfl) ?_
          refine lv_iload_n hx hb dX2_find_19 rfl (lv_at hl 3 rfl) ?_
          refine lv_iconst (v := nI 0) hx hb dX2_find_20 (by decide) ?_
          refine kl_cVi (C := RX2) (i := i) (As := [.int (nI p), .int (nI 0)]) (rest := []) ⟨hx, hb, hml, hown, hts⟩ (c_X2_at l G B _ i a b p 0 h0 h1 h2 (by omega) (by omega)) (cwV 2 hts gX2_find_X2_at rfl rfl rfl (by decide +kernel) ⟨Nat.le_of_ble_eq_true rfl, Nat.le_of_ble_eq_true rfl⟩) hK hP h0 rfl rfl hl.1 rfl (Nat.le_of_ble_eq_true rfl) dX2_find_21 ⟨Nat.le_of_ble_eq_true rfl, Nat.le_of_ble_eq_true rfl⟩ (fun r3 w1 H locs q2 hP => ?_)
          obtain ⟨rfl, rfl⟩ := q2
          refine kl_top (z := C (4 * p)) rfl ?_
          refine lv_iload_n hx hb dX2_find_24 rfl (lv_at hl 2 rfl) ?_
          refine lv_icmp_ne (tgt := 30) hx hb dX2_find_25 (by decide) (fun c25 => ?_) (fun c25 => ?_)
          · refine lv_iinc (v := nI (p + 1)) (lv' := [(3, .int (nI (p + 1))), (0, .ref (B + i)), (1, .int t), (2, .int k)]) hx hb dX2_find_30 hl (k := 3) rfl (nI_1 _) (by decide) rfl (fun ls hl => ?_)
            refine lv_goto (tgt := 2) hx hb dX2_find_33 (by decide) ?_
            exact ih2 (p + 1) (by omega) (by first | omega | grind) (by first | omega | grind) _ _ hP ls (lv_sub hl [1, 2, 3, 0] rfl)
          · refine lv_iload_n hx hb dX2_find_28 rfl (lv_at hl 3 rfl) ?_
            exact kl_iret hx hb hr hlocks hP ⟨rfl, Or.inr ⟨p, by omega, rfl, c15, c25⟩⟩ dX2_find_29
  exact lp2 (24 + 1) 0 (Nat.lt_succ_of_le (by omega)) (by first | omega | grind) (by first | omega | grind) _ _ hP ls (lv_sub hl [1, 2, 3, 0] rfl)

abbrev rm_X2_lesserKeys : Room := { frames := 1, cells := 0, slots := 0, locals := 22 }
set_option maxHeartbeats 4000000 in
set_option maxRecDepth 100000 in
theorem c_X2_lesserKeys (l : Launch) (G : kl_G) (B : Nat) (w : kl_M) (i a b : Nat) {T C : Nat → Int32} (t k : Int32) (h0 : w i = some (.inr (2, [.ref (B + a), .ref (B + b)]))) (h1 : w a = some (kl_aI G 24 T)) (h2 : w b = some (kl_aI G 96 C))  : Met l yX2_lesserKeys wsX2_lesserKeys rm_X2_lesserKeys (kl_Pc G B w [.ref (B + i), .int t, .int k]) (kl_Qi G B (fun r w1 => w = w1 ∧ r = nI (mt_less T C t k))) 0 0 (kl_fr B) := by
  refine Met.ofW (cc := cX2_lesserKeys) (maxL := 5) (ret := (some .int)) (by decide) rfl ?_
  intro pg e s m args below meth cd s₁ Bd hml hv
  obtain ⟨rfl, hP0, hK⟩ := hv
  have hx := Bd.exec
  have hb := Bd.bytes
  have hr := Bd.returns
  have hts := atoms_spec (ws := wsX2_lesserKeys) Bd.pre
  have hown : s.vm.findClass RX2 = some m.cls := findClass_of_methodNamed Bd.named
  have hlocks := Bd.notSynchronized
  have hinX2 : ∀ w ∈ u_ws RX2 TX2 2, w ∈ wsX2_lesserKeys := by decide +kernel
  have hP := kl_S.rf hP0
  have hl := lv_entry ([.ref (B + i), .int t, .int k]) (n := 5) (Nat.le_of_ble_eq_true rfl)
  rw [lg_entry_eq]
  generalize (lg_sl ([.ref (B + i), .int t, .int k]) ++ List.replicate (5 - (lg_sl ([.ref (B + i), .int t, .int k])).length) Slot.unset).toArray = ls at hl ⊢
  have hl : lv_has ls 5 [(0, .ref (B + i)), (1, .int t), (2, .int k)] := hl
  refine lv_iconst (v := nI 0) hx hb dX2_lesserKeys_0 (by decide) ?_
  refine lv_istore_n (lv' := [(3, .int (nI 0)), (0, .ref (B + i)), (1, .int t), (2, .int k)]) hx hb dX2_lesserKeys_1 rfl hl (by decide) rfl (fun ls hl => ?_)
  refine lv_iconst (v := nI 0) hx hb dX2_lesserKeys_2 (by decide) ?_
  refine lv_istore (lv' := [(4, .int (nI 0)), (3, .int (nI 0)), (0, .ref (B + i)), (1, .int t), (2, .int k)]) hx hb dX2_lesserKeys_3 hl (by decide) rfl (fun ls hl => ?_)
  have lp5 : ∀ (n5 : Nat) (p : Nat) (n : Nat), 24 - p < n5 → (p ≤ 24) → (n = mt_ct (fun q => T q = t ∧ C (4 * q) < k) p) → ∀ (H : Heap) (locs : List Loc), kl_S G B w s.heap H locs → ∀ ls : Array Slot, lv_has ls 5 [(0, .ref (B + i)), (1, .int t), (2, .int k), (3, .int (nI n)), (4, .int (nI p))] → W pg l e rm_X2_lesserKeys s m ([.ref (B + i), .int t, .int k] : List Value).toArray below meth cd H locs (0) (0) (MQ below (kl_Qi G B (fun r w1 => w = w1 ∧ r = nI (mt_less T C t k))) ([.ref (B + i), .int t, .int k] : List Value).toArray s 0 0 (kl_fr B)) (F0 m 5 ls []) := by
    intro n5
    induction n5 with
    | zero => intro p n hm; exact absurd hm (Nat.not_lt_zero _)
    | succ n5 ih5 =>
      intro p n hm hp hk H locs  hP ls hl
      refine lv_iload hx hb dX2_lesserKeys_5 (lv_at hl 4 rfl) ?_
      refine lv_bipush (v := nI 24) hx hb dX2_lesserKeys_7 (by decide) ?_
      refine kl_ge (tgt := 43) hx hb (by omega) (by omega) dX2_lesserKeys_9 (by decide) (fun c9 => ?_) (fun c9 => ?_)
      · refine lv_iload_n hx hb dX2_lesserKeys_43 rfl (lv_at hl 3 rfl) ?_
        exact kl_iret hx hb hr hlocks hP ⟨rfl, by rw [hk, show p = 24 by omega]; rfl⟩ dX2_lesserKeys_44
      · refine lv_aload_n hx hb dX2_lesserKeys_12 rfl (lv_at hl 0 rfl) ?_
        refine kl_get (C := RX2) (T := TX2) (N := 2) (ci := 2) hx hb hts hinX2 hown hK hP h0 rfl 0 (by decide) (hts (.fieldLink RX2 9 "KinLedger$Rows" "tables" "[I") (by decide +kernel)) (fun _ h9 => h9) rfl dX2_lesserKeys_13 ?_
        refine lv_iload hx hb dX2_lesserKeys_16 (lv_at hl 4 rfl) ?_
        refine kl_iald hx hb hK hP h1 (by omega) (by omega) dX2_lesserKeys_18 ?_
        refine lv_iload_n hx hb dX2_lesserKeys_19 rfl (lv_at hl 1 rfl) ?_
        refine lv_icmp_ne (tgt := 37) hx hb dX2_lesserKeys_20 (by decide) (fun c20 => ?_) (fun c20 => ?_)
        · refine lv_iinc (v := nI (p + 1)) (lv' := [(4, .int (nI (p + 1))), (0, .ref (B + i)), (1, .int t), (2, .int k), (3, .int (nI n))]) hx hb dX2_lesserKeys_37 hl (k := 4) rfl (nI_1 _) (by decide) rfl (fun ls hl => ?_)
          refine lv_goto (tgt := 5) hx hb dX2_lesserKeys_40 (by decide) ?_
          exact ih5 (p + 1) n (by omega) (by first | omega | grind) (by rw [mt_ct_n (fun z => c20 z.1), ← hk]) _ _ hP ls (lv_sub hl [1, 2, 3, 4, 0] rfl)
        · refine lv_aload_n hx hb dX2_lesserKeys_23 rfl (lv_at hl 0 rfl) ?_
          refine lv_iload hx hb dX2_lesserKeys_24 (lv_at hl 4 rfl) ?_
          refine lv_iconst (v := nI 0) hx hb dX2_lesserKeys_26 (by decide) ?_
          refine kl_cVi (C := RX2) (i := i) (As := [.int (nI p), .int (nI 0)]) (rest := []) ⟨hx, hb, hml, hown, hts⟩ (c_X2_at l G B _ i a b p 0 h0 h1 h2 (by omega) (by omega)) (cwV 2 hts gX2_lesserKeys_X2_at rfl rfl rfl (by decide +kernel) ⟨Nat.le_of_ble_eq_true rfl, Nat.le_of_ble_eq_true rfl⟩) hK hP h0 rfl rfl hl.1 rfl (Nat.le_of_ble_eq_true rfl) dX2_lesserKeys_27 ⟨Nat.le_of_ble_eq_true rfl, Nat.le_of_ble_eq_true rfl⟩ (fun r3 w1 H locs q2 hP => ?_)
          obtain ⟨rfl, rfl⟩ := q2
          refine kl_top (z := C (4 * p)) rfl ?_
          refine lv_iload_n hx hb dX2_lesserKeys_30 rfl (lv_at hl 2 rfl) ?_
          refine lv_icmp_ge (tgt := 37) hx hb dX2_lesserKeys_31 (by decide) (fun c31 => ?_) (fun c31 => ?_)
          · refine lv_iinc (v := nI (p + 1)) (lv' := [(4, .int (nI (p + 1))), (0, .ref (B + i)), (1, .int t), (2, .int k), (3, .int (nI n))]) hx hb dX2_lesserKeys_37 hl (k := 4) rfl (nI_1 _) (by decide) rfl (fun ls hl => ?_)
            refine lv_goto (tgt := 5) hx hb dX2_lesserKeys_40 (by decide) ?_
            exact ih5 (p + 1) n (by omega) (by first | omega | grind) (by rw [mt_ct_n (fun z => absurd z.2 (Int32.not_lt.mpr c31)), ← hk]) _ _ hP ls (lv_sub hl [1, 2, 3, 4, 0] rfl)
          · refine lv_iinc (v := nI (n + 1)) (lv' := [(3, .int (nI (n + 1))), (0, .ref (B + i)), (1, .int t), (2, .int k), (4, .int (nI p))]) hx hb dX2_lesserKeys_34 hl (k := 3) rfl (nI_1 _) (by decide) rfl (fun ls hl => ?_)
            refine lv_iinc (v := nI (p + 1)) (lv' := [(4, .int (nI (p + 1))), (3, .int (nI (n + 1))), (0, .ref (B + i)), (1, .int t), (2, .int k)]) hx hb dX2_lesserKeys_37 hl (k := 4) rfl (nI_1 _) (by decide) rfl (fun ls hl => ?_)
            refine lv_goto (tgt := 5) hx hb dX2_lesserKeys_40 (by decide) ?_
            exact ih5 (p + 1) (n + 1) (by omega) (by first | omega | grind) (by rw [mt_ct_y ⟨c20, Int32.not_le.mp c31⟩, ← hk]) _ _ hP ls (lv_sub hl [2, 3, 4, 1, 0] rfl)
  exact lp5 (24 + 1) 0 0 (Nat.lt_succ_of_le (by omega)) (by first | omega | grind) rfl _ _ hP ls (lv_sub hl [2, 3, 4, 1, 0] rfl)

abbrev rm_X2_placeOfRank : Room := { frames := 2, cells := 0, slots := 0, locals := 46 }
set_option maxHeartbeats 4000000 in
set_option maxRecDepth 100000 in
theorem c_X2_placeOfRank (l : Launch) (G : kl_G) (B : Nat) (w : kl_M) (i a b : Nat) {T C : Nat → Int32} (t k : Int32) (h0 : w i = some (.inr (2, [.ref (B + a), .ref (B + b)]))) (h1 : w a = some (kl_aI G 24 T)) (h2 : w b = some (kl_aI G 96 C))  : Met l yX2_placeOfRank wsX2_placeOfRank rm_X2_placeOfRank (kl_Pc G B w [.ref (B + i), .int t, .int k]) (kl_Qi G B (fun r w1 => w = w1 ∧ mt_rank T C t k r)) 0 0 (kl_fr B) := by
  refine Met.ofW (cc := cX2_placeOfRank) (maxL := 4) (ret := (some .int)) (by decide) rfl ?_
  intro pg e s m args below meth cd s₁ Bd hml hv
  obtain ⟨rfl, hP0, hK⟩ := hv
  have hx := Bd.exec
  have hb := Bd.bytes
  have hr := Bd.returns
  have hts := atoms_spec (ws := wsX2_placeOfRank) Bd.pre
  have hown : s.vm.findClass RX2 = some m.cls := findClass_of_methodNamed Bd.named
  have hlocks := Bd.notSynchronized
  have hinX2 : ∀ w ∈ u_ws RX2 TX2 2, w ∈ wsX2_placeOfRank := by decide +kernel
  have hP := kl_S.rf hP0
  have hl := lv_entry ([.ref (B + i), .int t, .int k]) (n := 4) (Nat.le_of_ble_eq_true rfl)
  rw [lg_entry_eq]
  generalize (lg_sl ([.ref (B + i), .int t, .int k]) ++ List.replicate (4 - (lg_sl ([.ref (B + i), .int t, .int k])).length) Slot.unset).toArray = ls at hl ⊢
  have hl : lv_has ls 4 [(0, .ref (B + i)), (1, .int t), (2, .int k)] := hl
  refine lv_iconst (v := nI 0) hx hb dX2_placeOfRank_0 (by decide) ?_
  refine lv_istore_n (lv' := [(3, .int (nI 0)), (0, .ref (B + i)), (1, .int t), (2, .int k)]) hx hb dX2_placeOfRank_1 rfl hl (by decide) rfl (fun ls hl => ?_)
  have lp2 : ∀ (n2 : Nat) (p : Nat), 24 - p < n2 → (p ≤ 24) → (∀ q, q < p → ¬ (T q = t ∧ nI (mt_less T C t (C (4 * q))) = k)) → ∀ (H : Heap) (locs : List Loc), kl_S G B w s.heap H locs → ∀ ls : Array Slot, lv_has ls 4 [(0, .ref (B + i)), (1, .int t), (2, .int k), (3, .int (nI p))] → W pg l e rm_X2_placeOfRank s m ([.ref (B + i), .int t, .int k] : List Value).toArray below meth cd H locs (0) (0) (MQ below (kl_Qi G B (fun r w1 => w = w1 ∧ mt_rank T C t k r)) ([.ref (B + i), .int t, .int k] : List Value).toArray s 0 0 (kl_fr B)) (F0 m 2 ls []) := by
    intro n2
    induction n2 with
    | zero => intro p hm; exact absurd hm (Nat.not_lt_zero _)
    | succ n2 ih2 =>
      intro p hm hp hno H locs  hP ls hl
      refine lv_iload_n hx hb dX2_placeOfRank_2 rfl (lv_at hl 3 rfl) ?_
      refine lv_bipush (v := nI 24) hx hb dX2_placeOfRank_3 (by decide) ?_
      refine kl_ge (tgt := 41) hx hb (by omega) (by omega) dX2_placeOfRank_5 (by decide) (fun c5 => ?_) (fun c5 => ?_)
      · refine lv_iconst (v := (-1)) hx hb dX2_placeOfRank_41 (by decide) ?_
        exact kl_iret hx hb hr hlocks hP ⟨rfl, Or.inl ⟨rfl, fun q hq => hno q (by omega)⟩⟩ dX2_placeOfRank_42
      · refine lv_aload_n hx hb dX2_placeOfRank_8 rfl (lv_at hl 0 rfl) ?_
        refine kl_get (C := RX2) (T := TX2) (N := 2) (ci := 2) hx hb hts hinX2 hown hK hP h0 rfl 0 (by decide) (hts (.fieldLink RX2 9 "KinLedger$Rows" "tables" "[I") (by decide +kernel)) (fun _ h9 => h9) rfl dX2_placeOfRank_9 ?_
        refine lv_iload_n hx hb dX2_placeOfRank_12 rfl (lv_at hl 3 rfl) ?_
        refine kl_iald hx hb hK hP h1 (by omega) (by omega) dX2_placeOfRank_13 ?_
        refine lv_iload_n hx hb dX2_placeOfRank_14 rfl (lv_at hl 1 rfl) ?_
        refine lv_icmp_ne (tgt := 35) hx hb dX2_placeOfRank_15 (by decide) (fun c15 => ?_) (fun c15 => ?_)
        · refine lv_iinc (v := nI (p + 1)) (lv' := [(3, .int (nI (p + 1))), (0, .ref (B + i)), (1, .int t), (2, .int k)]) hx hb dX2_placeOfRank_35 hl (k := 3) rfl (nI_1 _) (by decide) rfl (fun ls hl => ?_)
          refine lv_goto (tgt := 2) hx hb dX2_placeOfRank_38 (by decide) ?_
          exact ih2 (p + 1) (by omega) (by first | omega | grind) (by first | omega | grind) _ _ hP ls (lv_sub hl [1, 2, 3, 0] rfl)
        · refine lv_aload_n hx hb dX2_placeOfRank_18 rfl (lv_at hl 0 rfl) ?_
          refine lv_iload_n hx hb dX2_placeOfRank_19 rfl (lv_at hl 1 rfl) ?_
          refine lv_aload_n hx hb dX2_placeOfRank_20 rfl (lv_at hl 0 rfl) ?_
          refine lv_iload_n hx hb dX2_placeOfRank_21 rfl (lv_at hl 3 rfl) ?_
          refine lv_iconst (v := nI 0) hx hb dX2_placeOfRank_22 (by decide) ?_
          refine kl_cVi (C := RX2) (i := i) (As := [.int (nI p), .int (nI 0)]) (rest := [.int t, .ref (B + i)]) ⟨hx, hb, hml, hown, hts⟩ (c_X2_at l G B _ i a b p 0 h0 h1 h2 (by omega) (by omega)) (cwV 2 hts gX2_placeOfRank_X2_at rfl rfl rfl (by decide +kernel) ⟨Nat.le_of_ble_eq_true rfl, Nat.le_of_ble_eq_true rfl⟩) hK hP h0 rfl rfl hl.1 rfl (Nat.le_of_ble_eq_true rfl) dX2_placeOfRank_23 ⟨Nat.le_of_ble_eq_true rfl, Nat.le_of_ble_eq_true rfl⟩ (fun r3 w1 H locs q2 hP => ?_)
          obtain ⟨rfl, rfl⟩ := q2
          refine kl_top (z := C (4 * p)) rfl ?_
          refine kl_cVi (C := RX2) (i := i) (As := [.int t, .int (C (4 * p))]) (rest := []) ⟨hx, hb, hml, hown, hts⟩ (c_X2_lesserKeys l G B _ i a b t (C (4 * p)) h0 h1 h2 ) (cwV 2 hts gX2_placeOfRank_X2_lesserKeys rfl rfl rfl (by decide +kernel) ⟨Nat.le_of_ble_eq_true rfl, Nat.le_of_ble_eq_true rfl⟩) hK hP h0 rfl rfl hl.1 rfl (Nat.le_of_ble_eq_true rfl) dX2_placeOfRank_26 ⟨Nat.le_of_ble_eq_true rfl, Nat.le_of_ble_eq_true rfl⟩ (fun r6 w4 H locs q5 hP => ?_)
          obtain ⟨rfl, rfl⟩ := q5
          refine lv_iload_n hx hb dX2_placeOfRank_29 rfl (lv_at hl 2 rfl) ?_
          refine lv_icmp_ne (tgt := 35) hx hb dX2_placeOfRank_30 (by decide) (fun c30 => ?_) (fun c30 => ?_)
          · refine lv_iinc (v := nI (p + 1)) (lv' := [(3, .int (nI (p + 1))), (0, .ref (B + i)), (1, .int t), (2, .int k)]) hx hb dX2_placeOfRank_35 hl (k := 3) rfl (nI_1 _) (by decide) rfl (fun ls hl => ?_)
            refine lv_goto (tgt := 2) hx hb dX2_placeOfRank_38 (by decide) ?_
            exact ih2 (p + 1) (by omega) (by first | omega | grind) (by first | omega | grind) _ _ hP ls (lv_sub hl [1, 2, 3, 0] rfl)
          · refine lv_iload_n hx hb dX2_placeOfRank_33 rfl (lv_at hl 3 rfl) ?_
            exact kl_iret hx hb hr hlocks hP ⟨rfl, Or.inr ⟨p, by omega, rfl, c15, c30⟩⟩ dX2_placeOfRank_34
  exact lp2 (24 + 1) 0 (Nat.lt_succ_of_le (by omega)) (by first | omega | grind) (by first | omega | grind) _ _ hP ls (lv_sub hl [1, 2, 3, 0] rfl)

abbrev rm_X2_hasTwinBefore : Room := { frames := 1, cells := 0, slots := 0, locals := 22 }
set_option maxHeartbeats 4000000 in
set_option maxRecDepth 100000 in
theorem c_X2_hasTwinBefore (l : Launch) (G : kl_G) (B : Nat) (w : kl_M) (i a b : Nat) {T C : Nat → Int32} (p c : Nat) (h0 : w i = some (.inr (2, [.ref (B + a), .ref (B + b)]))) (h1 : w a = some (kl_aI G 24 T)) (h2 : w b = some (kl_aI G 96 C)) (hp : p < 24) (hc : c < 4) : Met l yX2_hasTwinBefore wsX2_hasTwinBefore rm_X2_hasTwinBefore (kl_Pc G B w [.ref (B + i), .int (nI p), .int (nI c)]) (kl_Qi G B (fun r w1 => w = w1 ∧ kl_b r (mt_twinb T C p c))) 0 0 (kl_fr B) := by
  refine Met.ofW (cc := cX2_hasTwinBefore) (maxL := 4) (ret := (some .boolean)) (by decide) rfl ?_
  intro pg e s m args below meth cd s₁ Bd hml hv
  obtain ⟨rfl, hP0, hK⟩ := hv
  have hx := Bd.exec
  have hb := Bd.bytes
  have hr := Bd.returns
  have hts := atoms_spec (ws := wsX2_hasTwinBefore) Bd.pre
  have hown : s.vm.findClass RX2 = some m.cls := findClass_of_methodNamed Bd.named
  have hlocks := Bd.notSynchronized
  have hinX2 : ∀ w ∈ u_ws RX2 TX2 2, w ∈ wsX2_hasTwinBefore := by decide +kernel
  have hP := kl_S.rf hP0
  have hl := lv_entry ([.ref (B + i), .int (nI p), .int (nI c)]) (n := 4) (Nat.le_of_ble_eq_true rfl)
  rw [lg_entry_eq]
  generalize (lg_sl ([.ref (B + i), .int (nI p), .int (nI c)]) ++ List.replicate (4 - (lg_sl ([.ref (B + i), .int (nI p), .int (nI c)])).length) Slot.unset).toArray = ls at hl ⊢
  have hl : lv_has ls 4 [(0, .ref (B + i)), (1, .int (nI p)), (2, .int (nI c))] := hl
  refine lv_iconst (v := nI 0) hx hb dX2_hasTwinBefore_0 (by decide) ?_
  refine lv_istore_n (lv' := [(3, .int (nI 0)), (0, .ref (B + i)), (1, .int (nI p)), (2, .int (nI c))]) hx hb dX2_hasTwinBefore_1 rfl hl (by decide) rfl (fun ls hl => ?_)
  have lp2 : ∀ (n2 : Nat) (q : Nat), 24 - q < n2 → (q ≤ p) → (∀ j, j < q → ¬ (T j = T p ∧ C (4 * j + c) = C (4 * p + c))) → ∀ (H : Heap) (locs : List Loc), kl_S G B w s.heap H locs → ∀ ls : Array Slot, lv_has ls 4 [(0, .ref (B + i)), (1, .int (nI p)), (2, .int (nI c)), (3, .int (nI q))] → W pg l e rm_X2_hasTwinBefore s m ([.ref (B + i), .int (nI p), .int (nI c)] : List Value).toArray below meth cd H locs (0) (0) (MQ below (kl_Qi G B (fun r w1 => w = w1 ∧ kl_b r (mt_twinb T C p c))) ([.ref (B + i), .int (nI p), .int (nI c)] : List Value).toArray s 0 0 (kl_fr B)) (F0 m 2 ls []) := by
    intro n2
    induction n2 with
    | zero => intro q hm; exact absurd hm (Nat.not_lt_zero _)
    | succ n2 ih2 =>
      intro q hm hq hno H locs  hP ls hl
      refine lv_iload_n hx hb dX2_hasTwinBefore_2 rfl (lv_at hl 3 rfl) ?_
      refine lv_iload_n hx hb dX2_hasTwinBefore_3 rfl (lv_at hl 1 rfl) ?_
      refine kl_ge (tgt := 45) hx hb (by omega) (by omega) dX2_hasTwinBefore_4 (by decide) (fun c4 => ?_) (fun c4 => ?_)
      · refine lv_iconst (v := nI 0) hx hb dX2_hasTwinBefore_45 (by decide) ?_
        exact kl_zret hx hb hr hlocks (by decide) hP ⟨rfl, kl_b.f (fun ⟨j, hj, z⟩ => hno j (by omega) z)⟩ dX2_hasTwinBefore_46
      · refine lv_aload_n hx hb dX2_hasTwinBefore_7 rfl (lv_at hl 0 rfl) ?_
        refine kl_get (C := RX2) (T := TX2) (N := 2) (ci := 2) hx hb hts hinX2 hown hK hP h0 rfl 0 (by decide) (hts (.fieldLink RX2 9 "KinLedger$Rows" "tables" "[I") (by decide +kernel)) (fun _ h9 => h9) rfl dX2_hasTwinBefore_8 ?_
        refine lv_iload_n hx hb dX2_hasTwinBefore_11 rfl (lv_at hl 3 rfl) ?_
        refine kl_iald hx hb hK hP h1 (by omega) (by omega) dX2_hasTwinBefore_12 ?_
        refine lv_aload_n hx hb dX2_hasTwinBefore_13 rfl (lv_at hl 0 rfl) ?_
        refine kl_get (C := RX2) (T := TX2) (N := 2) (ci := 2) hx hb hts hinX2 hown hK hP h0 rfl 0 (by decide) (hts (.fieldLink RX2 9 "KinLedger$Rows" "tables" "[I") (by decide +kernel)) (fun _ h9 => h9) rfl dX2_hasTwinBefore_14 ?_
        refine lv_iload_n hx hb dX2_hasTwinBefore_17 rfl (lv_at hl 1 rfl) ?_
        refine kl_iald hx hb hK hP h1 (by omega) (by omega) dX2_hasTwinBefore_18 ?_
        refine lv_icmp_ne (tgt := 39) hx hb dX2_hasTwinBefore_19 (by decide) (fun c19 => ?_) (fun c19 => ?_)
        · refine lv_iinc (v := nI (q + 1)) (lv' := [(3, .int (nI (q + 1))), (0, .ref (B + i)), (1, .int (nI p)), (2, .int (nI c))]) hx hb dX2_hasTwinBefore_39 hl (k := 3) rfl (nI_1 _) (by decide) rfl (fun ls hl => ?_)
          refine lv_goto (tgt := 2) hx hb dX2_hasTwinBefore_42 (by decide) ?_
          exact ih2 (q + 1) (by omega) (by first | omega | grind) (by first | omega | grind) _ _ hP ls (lv_sub hl [1, 2, 3, 0] rfl)
        · refine lv_aload_n hx hb dX2_hasTwinBefore_22 rfl (lv_at hl 0 rfl) ?_
          refine lv_iload_n hx hb dX2_hasTwinBefore_23 rfl (lv_at hl 3 rfl) ?_
          refine lv_iload_n hx hb dX2_hasTwinBefore_24 rfl (lv_at hl 2 rfl) ?_
          refine kl_cVi (C := RX2) (i := i) (As := [.int (nI q), .int (nI c)]) (rest := []) ⟨hx, hb, hml, hown, hts⟩ (c_X2_at l G B _ i a b q c h0 h1 h2 (by omega) (by omega)) (cwV 2 hts gX2_hasTwinBefore_X2_at rfl rfl rfl (by decide +kernel) ⟨Nat.le_of_ble_eq_true rfl, Nat.le_of_ble_eq_true rfl⟩) hK hP h0 rfl rfl hl.1 rfl (Nat.le_of_ble_eq_true rfl) dX2_hasTwinBefore_25 ⟨Nat.le_of_ble_eq_true rfl, Nat.le_of_ble_eq_true rfl⟩ (fun r3 w1 H locs q2 hP => ?_)
          obtain ⟨rfl, rfl⟩ := q2
          refine kl_top (z := C (4 * q + c)) rfl ?_
          refine lv_aload_n hx hb dX2_hasTwinBefore_28 rfl (lv_at hl 0 rfl) ?_
          refine lv_iload_n hx hb dX2_hasTwinBefore_29 rfl (lv_at hl 1 rfl) ?_
          refine lv_iload_n hx hb dX2_hasTwinBefore_30 rfl (lv_at hl 2 rfl) ?_
          refine kl_cVi (C := RX2) (i := i) (As := [.int (nI p), .int (nI c)]) (rest := [.int (C (4 * q + c))]) ⟨hx, hb, hml, hown, hts⟩ (c_X2_at l G B _ i a b p c h0 h1 h2 (by omega) (by omega)) (cwV 2 hts gX2_hasTwinBefore_X2_at rfl rfl rfl (by decide +kernel) ⟨Nat.le_of_ble_eq_true rfl, Nat.le_of_ble_eq_true rfl⟩) hK hP h0 rfl rfl hl.1 rfl (Nat.le_of_ble_eq_true rfl) dX2_hasTwinBefore_31 ⟨Nat.le_of_ble_eq_true rfl, Nat.le_of_ble_eq_true rfl⟩ (fun r6 w4 H locs q5 hP => ?_)
          obtain ⟨rfl, rfl⟩ := q5
          refine kl_top (z := C (4 * p + c)) rfl ?_
          refine lv_icmp_ne (tgt := 39) hx hb dX2_hasTwinBefore_34 (by decide) (fun c34 => ?_) (fun c34 => ?_)
          · refine lv_iinc (v := nI (q + 1)) (lv' := [(3, .int (nI (q + 1))), (0, .ref (B + i)), (1, .int (nI p)), (2, .int (nI c))]) hx hb dX2_hasTwinBefore_39 hl (k := 3) rfl (nI_1 _) (by decide) rfl (fun ls hl => ?_)
            refine lv_goto (tgt := 2) hx hb dX2_hasTwinBefore_42 (by decide) ?_
            exact ih2 (q + 1) (by omega) (by first | omega | grind) (by first | omega | grind) _ _ hP ls (lv_sub hl [1, 2, 3, 0] rfl)
          · refine lv_iconst (v := nI 1) hx hb dX2_hasTwinBefore_37 (by decide) ?_
            exact kl_zret hx hb hr hlocks (by decide) hP ⟨rfl, kl_b.t ⟨q, by omega, c19, c34⟩⟩ dX2_hasTwinBefore_38
  exact lp2 (24 + 1) 0 (Nat.lt_succ_of_le (by omega)) (by first | omega | grind) (by first | omega | grind) _ _ hP ls (lv_sub hl [1, 2, 3, 0] rfl)

abbrev rm_X2_hasTwins : Room := { frames := 2, cells := 0, slots := 0, locals := 45 }
set_option maxHeartbeats 4000000 in
set_option maxRecDepth 100000 in
theorem c_X2_hasTwins (l : Launch) (G : kl_G) (B : Nat) (w : kl_M) (i a b : Nat) {T C : Nat → Int32} (t : Int32) (c : Nat) (h0 : w i = some (.inr (2, [.ref (B + a), .ref (B + b)]))) (h1 : w a = some (kl_aI G 24 T)) (h2 : w b = some (kl_aI G 96 C)) (hc : c < 4) : Met l yX2_hasTwins wsX2_hasTwins rm_X2_hasTwins (kl_Pc G B w [.ref (B + i), .int t, .int (nI c)]) (kl_Qi G B (fun r w1 => w = w1 ∧ kl_b r (mt_twin T C t c))) 0 0 (kl_fr B) := by
  refine Met.ofW (cc := cX2_hasTwins) (maxL := 4) (ret := (some .boolean)) (by decide) rfl ?_
  intro pg e s m args below meth cd s₁ Bd hml hv
  obtain ⟨rfl, hP0, hK⟩ := hv
  have hx := Bd.exec
  have hb := Bd.bytes
  have hr := Bd.returns
  have hts := atoms_spec (ws := wsX2_hasTwins) Bd.pre
  have hown : s.vm.findClass RX2 = some m.cls := findClass_of_methodNamed Bd.named
  have hlocks := Bd.notSynchronized
  have hinX2 : ∀ w ∈ u_ws RX2 TX2 2, w ∈ wsX2_hasTwins := by decide +kernel
  have hP := kl_S.rf hP0
  have hl := lv_entry ([.ref (B + i), .int t, .int (nI c)]) (n := 4) (Nat.le_of_ble_eq_true rfl)
  rw [lg_entry_eq]
  generalize (lg_sl ([.ref (B + i), .int t, .int (nI c)]) ++ List.replicate (4 - (lg_sl ([.ref (B + i), .int t, .int (nI c)])).length) Slot.unset).toArray = ls at hl ⊢
  have hl : lv_has ls 4 [(0, .ref (B + i)), (1, .int t), (2, .int (nI c))] := hl
  refine lv_iconst (v := nI 1) hx hb dX2_hasTwins_0 (by decide) ?_
  refine lv_istore_n (lv' := [(3, .int (nI 1)), (0, .ref (B + i)), (1, .int t), (2, .int (nI c))]) hx hb dX2_hasTwins_1 rfl hl (by decide) rfl (fun ls hl => ?_)
  have lp2 : ∀ (n2 : Nat) (p : Nat), 24 - p < n2 → (p ≤ 24) → (∀ q, q < p → ¬ (T q = t ∧ C (4 * q + c) ≠ 0 ∧ mt_twinb T C q c)) → ∀ (H : Heap) (locs : List Loc), kl_S G B w s.heap H locs → ∀ ls : Array Slot, lv_has ls 4 [(0, .ref (B + i)), (1, .int t), (2, .int (nI c)), (3, .int (nI p))] → W pg l e rm_X2_hasTwins s m ([.ref (B + i), .int t, .int (nI c)] : List Value).toArray below meth cd H locs (0) (0) (MQ below (kl_Qi G B (fun r w1 => w = w1 ∧ kl_b r (mt_twin T C t c))) ([.ref (B + i), .int t, .int (nI c)] : List Value).toArray s 0 0 (kl_fr B)) (F0 m 2 ls []) := by
    intro n2
    induction n2 with
    | zero => intro p hm; exact absurd hm (Nat.not_lt_zero _)
    | succ n2 ih2 =>
      intro p hm hp hno H locs  hP ls hl
      refine lv_iload_n hx hb dX2_hasTwins_2 rfl (lv_at hl 3 rfl) ?_
      refine lv_bipush (v := nI 24) hx hb dX2_hasTwins_3 (by decide) ?_
      refine kl_ge (tgt := 44) hx hb (by omega) (by omega) dX2_hasTwins_5 (by decide) (fun c5 => ?_) (fun c5 => ?_)
      · refine lv_iconst (v := nI 0) hx hb dX2_hasTwins_44 (by decide) ?_
        exact kl_zret hx hb hr hlocks (by decide) hP ⟨rfl, kl_b.f (fun ⟨q, hq, z⟩ => hno q (by omega) z)⟩ dX2_hasTwins_45
      · refine lv_aload_n hx hb dX2_hasTwins_8 rfl (lv_at hl 0 rfl) ?_
        refine kl_get (C := RX2) (T := TX2) (N := 2) (ci := 2) hx hb hts hinX2 hown hK hP h0 rfl 0 (by decide) (hts (.fieldLink RX2 9 "KinLedger$Rows" "tables" "[I") (by decide +kernel)) (fun _ h9 => h9) rfl dX2_hasTwins_9 ?_
        refine lv_iload_n hx hb dX2_hasTwins_12 rfl (lv_at hl 3 rfl) ?_
        refine kl_iald hx hb hK hP h1 (by omega) (by omega) dX2_hasTwins_13 ?_
        refine lv_iload_n hx hb dX2_hasTwins_14 rfl (lv_at hl 1 rfl) ?_
        refine lv_icmp_ne (tgt := 38) hx hb dX2_hasTwins_15 (by decide) (fun c15 => ?_) (fun c15 => ?_)
        · refine lv_iinc (v := nI (p + 1)) (lv' := [(3, .int (nI (p + 1))), (0, .ref (B + i)), (1, .int t), (2, .int (nI c))]) hx hb dX2_hasTwins_38 hl (k := 3) rfl (nI_1 _) (by decide) rfl (fun ls hl => ?_)
          refine lv_goto (tgt := 2) hx hb dX2_hasTwins_41 (by decide) ?_
          exact ih2 (p + 1) (by omega) (by first | omega | grind) (by first | omega | grind) _ _ hP ls (lv_sub hl [1, 2, 3, 0] rfl)
        · refine lv_aload_n hx hb dX2_hasTwins_18 rfl (lv_at hl 0 rfl) ?_
          refine lv_iload_n hx hb dX2_hasTwins_19 rfl (lv_at hl 3 rfl) ?_
          refine lv_iload_n hx hb dX2_hasTwins_20 rfl (lv_at hl 2 rfl) ?_
          refine kl_cVi (C := RX2) (i := i) (As := [.int (nI p), .int (nI c)]) (rest := []) ⟨hx, hb, hml, hown, hts⟩ (c_X2_at l G B _ i a b p c h0 h1 h2 (by omega) (by omega)) (cwV 2 hts gX2_hasTwins_X2_at rfl rfl rfl (by decide +kernel) ⟨Nat.le_of_ble_eq_true rfl, Nat.le_of_ble_eq_true rfl⟩) hK hP h0 rfl rfl hl.1 rfl (Nat.le_of_ble_eq_true rfl) dX2_hasTwins_21 ⟨Nat.le_of_ble_eq_true rfl, Nat.le_of_ble_eq_true rfl⟩ (fun r3 w1 H locs q2 hP => ?_)
          obtain ⟨rfl, rfl⟩ := q2
          refine kl_top (z := C (4 * p + c)) rfl ?_
          refine lv_if_eq (tgt := 38) hx hb dX2_hasTwins_24 (by decide) (fun c24 => ?_) (fun c24 => ?_)
          · refine lv_iinc (v := nI (p + 1)) (lv' := [(3, .int (nI (p + 1))), (0, .ref (B + i)), (1, .int t), (2, .int (nI c))]) hx hb dX2_hasTwins_38 hl (k := 3) rfl (nI_1 _) (by decide) rfl (fun ls hl => ?_)
            refine lv_goto (tgt := 2) hx hb dX2_hasTwins_41 (by decide) ?_
            exact ih2 (p + 1) (by omega) (by first | omega | grind) (by first | omega | grind) _ _ hP ls (lv_sub hl [1, 2, 3, 0] rfl)
          · refine lv_aload_n hx hb dX2_hasTwins_27 rfl (lv_at hl 0 rfl) ?_
            refine lv_iload_n hx hb dX2_hasTwins_28 rfl (lv_at hl 3 rfl) ?_
            refine lv_iload_n hx hb dX2_hasTwins_29 rfl (lv_at hl 2 rfl) ?_
            refine kl_cVi (C := RX2) (i := i) (As := [.int (nI p), .int (nI c)]) (rest := []) ⟨hx, hb, hml, hown, hts⟩ (c_X2_hasTwinBefore l G B _ i a b p c h0 h1 h2 (by omega) (by omega)) (cwV 2 hts gX2_hasTwins_X2_hasTwinBefore rfl rfl rfl (by decide +kernel) ⟨Nat.le_of_ble_eq_true rfl, Nat.le_of_ble_eq_true rfl⟩) hK hP h0 rfl rfl hl.1 rfl (Nat.le_of_ble_eq_true rfl) dX2_hasTwins_30 ⟨Nat.le_of_ble_eq_true rfl, Nat.le_of_ble_eq_true rfl⟩ (fun r6 w4 H locs q5 hP => ?_)
            obtain ⟨rfl, hv7⟩ := q5
            refine kl_ifeq (tgt := 38) hx hb hv7 dX2_hasTwins_33 (by decide) (fun c33 => ?_) (fun c33 => ?_)
            · refine lv_iinc (v := nI (p + 1)) (lv' := [(3, .int (nI (p + 1))), (0, .ref (B + i)), (1, .int t), (2, .int (nI c))]) hx hb dX2_hasTwins_38 hl (k := 3) rfl (nI_1 _) (by decide) rfl (fun ls hl => ?_)
              refine lv_goto (tgt := 2) hx hb dX2_hasTwins_41 (by decide) ?_
              exact ih2 (p + 1) (by omega) (by first | omega | grind) (by first | omega | grind) _ _ hP ls (lv_sub hl [1, 2, 3, 0] rfl)
            · refine lv_iconst (v := nI 1) hx hb dX2_hasTwins_36 (by decide) ?_
              exact kl_zret hx hb hr hlocks (by decide) hP ⟨rfl, kl_b.t ⟨p, by omega, c15, c24, c33⟩⟩ dX2_hasTwins_37
  exact lp2 (24 + 1) 1 (Nat.lt_succ_of_le (by omega)) (by first | omega | grind) (fun q hq z => by obtain ⟨-, -, j, hj, -⟩ := z; omega) _ _ hP ls (lv_sub hl [1, 2, 3, 0] rfl)

abbrev rm_X2_become : Room := { frames := 1, cells := 0, slots := 0, locals := 40 }
set_option maxHeartbeats 4000000 in
set_option maxRecDepth 100000 in
theorem c_X2_become (l : Launch) (G : kl_G) (B : Nat) (w : kl_M) (i a b i2 a2 b2 : Nat) {T C T2 C2 : Nat → Int32} (h0 : w i = some (.inr (2, [.ref (B + a), .ref (B + b)]))) (h1 : w a = some (kl_aI G 24 T)) (h2 : w b = some (kl_aI G 96 C)) (h3 : w i2 = some (.inr (2, [.ref (B + a2), .ref (B + b2)]))) (h4 : w a2 = some (kl_aI G 24 T2)) (h5 : w b2 = some (kl_aI G 96 C2)) (ni : i ≠ a ∧ i ≠ b ∧ a ≠ b ∧ i2 ≠ a ∧ i2 ≠ b ∧ a2 ≠ a ∧ a2 ≠ b ∧ b2 ≠ a ∧ b2 ≠ b) : Met l yX2_become wsX2_become rm_X2_become (kl_Pc G B w [.ref (B + i), .ref (B + i2)]) (kl_Qv G B (fun w1 => w1 a = some (kl_aI G 24 T2) ∧ w1 b = some (kl_aI G 96 C2) ∧ ∀ j, j ≠ a → j ≠ b → w1 j = w j)) 0 0 (kl_fr B) := by
  refine Met.ofW (cc := cX2_become) (maxL := 2) (ret := none) (by decide) rfl ?_
  intro pg e s m args below meth cd s₁ Bd hml hv
  obtain ⟨rfl, hP0, hK⟩ := hv
  have hx := Bd.exec
  have hb := Bd.bytes
  have hr := Bd.returns
  have hts := atoms_spec (ws := wsX2_become) Bd.pre
  have hown : s.vm.findClass RX2 = some m.cls := findClass_of_methodNamed Bd.named
  have hlocks := Bd.notSynchronized
  have hinX2 : ∀ w ∈ u_ws RX2 TX2 2, w ∈ wsX2_become := by decide +kernel
  have hP := kl_S.rf hP0
  have hl := lv_entry ([.ref (B + i), .ref (B + i2)]) (n := 2) (Nat.le_of_ble_eq_true rfl)
  rw [lg_entry_eq]
  generalize (lg_sl ([.ref (B + i), .ref (B + i2)]) ++ List.replicate (2 - (lg_sl ([.ref (B + i), .ref (B + i2)])).length) Slot.unset).toArray = ls at hl ⊢
  have hl : lv_has ls 2 [(0, .ref (B + i)), (1, .ref (B + i2))] := hl
  obtain ⟨n1, n2, n3, n4, n5, n6, n7, n8, n9⟩ := ni
  refine lv_aload_n hx hb dX2_become_0 rfl (lv_at hl 1 rfl) ?_
  refine kl_get (C := RX2) (T := TX2) (N := 2) (ci := 2) hx hb hts hinX2 hown hK hP h3 rfl 0 (by decide) (hts (.fieldLink RX2 9 "KinLedger$Rows" "tables" "[I") (by decide +kernel)) (fun _ h9 => h9) rfl dX2_become_1 ?_
  refine lv_iconst (v := nI 0) hx hb dX2_become_4 (by decide) ?_
  refine lv_aload_n hx hb dX2_become_5 rfl (lv_at hl 0 rfl) ?_
  refine kl_get (C := RX2) (T := TX2) (N := 2) (ci := 2) hx hb hts hinX2 hown hK hP h0 rfl 0 (by decide) (hts (.fieldLink RX2 9 "KinLedger$Rows" "tables" "[I") (by decide +kernel)) (fun _ h9 => h9) rfl dX2_become_6 ?_
  refine lv_iconst (v := nI 0) hx hb dX2_become_9 (by decide) ?_
  refine lv_bipush (v := nI 24) hx hb dX2_become_10 (by decide) ?_
  refine kl_copyi hx hb (hml.trans hl.1.symm) hown (hts (.methodLink RX2 24 arraycopyName) (by decide +kernel)) (hts (.native arraycopyName) (by decide +kernel)) (hts (.static arraycopyName) (by decide +kernel)) (hts (.initialized "java/lang/System") (by decide +kernel)) hK hP h4 h1 (by omega) (by omega) (by omega) (Nat.le_of_ble_eq_true rfl) (Nat.le_of_ble_eq_true (by decide)) dX2_become_12 (fun w1 H locs f2 fr3 hzw1 hP => ?_)
  have h0 : w1 i = some (.inr (2, [.ref (B + a), .ref (B + b)])) := (fr3 _ (by omega)).trans h0
  have h2 : w1 b = some (kl_aI G 96 C) := (fr3 _ (by omega)).trans h2
  have h3 : w1 i2 = some (.inr (2, [.ref (B + a2), .ref (B + b2)])) := (fr3 _ (by omega)).trans h3
  have h4 : w1 a2 = some (kl_aI G 24 T2) := (fr3 _ (by omega)).trans h4
  have h5 : w1 b2 = some (kl_aI G 96 C2) := (fr3 _ (by omega)).trans h5
  obtain ⟨w4, f5, fr6, hP⟩ := kl_arr (g := T2) hP f2 (fun j hj => pk_cpy_in (Nat.zero_le _) (by omega) |>.trans (by rw [Nat.zero_add, Nat.sub_zero]))
  have h0 : w4 i = some (.inr (2, [.ref (B + a), .ref (B + b)])) := (fr6 _ (by omega)).trans h0
  have h2 : w4 b = some (kl_aI G 96 C) := (fr6 _ (by omega)).trans h2
  have h3 : w4 i2 = some (.inr (2, [.ref (B + a2), .ref (B + b2)])) := (fr6 _ (by omega)).trans h3
  have h4 : w4 a2 = some (kl_aI G 24 T2) := (fr6 _ (by omega)).trans h4
  have h5 : w4 b2 = some (kl_aI G 96 C2) := (fr6 _ (by omega)).trans h5
  refine lv_aload_n hx hb dX2_become_15 rfl (lv_at hl 1 rfl) ?_
  refine kl_get (C := RX2) (T := TX2) (N := 2) (ci := 2) hx hb hts hinX2 hown hK hP h3 rfl 1 (by decide) (hts (.fieldLink RX2 15 "KinLedger$Rows" "cells" "[I") (by decide +kernel)) (fun _ h9 => h9) rfl dX2_become_16 ?_
  refine lv_iconst (v := nI 0) hx hb dX2_become_19 (by decide) ?_
  refine lv_aload_n hx hb dX2_become_20 rfl (lv_at hl 0 rfl) ?_
  refine kl_get (C := RX2) (T := TX2) (N := 2) (ci := 2) hx hb hts hinX2 hown hK hP h0 rfl 1 (by decide) (hts (.fieldLink RX2 15 "KinLedger$Rows" "cells" "[I") (by decide +kernel)) (fun _ h9 => h9) rfl dX2_become_21 ?_
  refine lv_iconst (v := nI 0) hx hb dX2_become_24 (by decide) ?_
  refine lv_bipush (v := nI 96) hx hb dX2_become_25 (by decide) ?_
  refine kl_copyi hx hb (hml.trans hl.1.symm) hown (hts (.methodLink RX2 24 arraycopyName) (by decide +kernel)) (hts (.native arraycopyName) (by decide +kernel)) (hts (.static arraycopyName) (by decide +kernel)) (hts (.initialized "java/lang/System") (by decide +kernel)) hK hP h5 h2 (by omega) (by omega) (by omega) (Nat.le_of_ble_eq_true rfl) (Nat.le_of_ble_eq_true (by decide)) dX2_become_27 (fun w7 H locs f8 fr9 hzw7 hP => ?_)
  have h0 : w7 i = some (.inr (2, [.ref (B + a), .ref (B + b)])) := (fr9 _ (by omega)).trans h0
  have f5 : w7 a = some (kl_aI G 24 T2) := (fr9 _ (by omega)).trans f5
  have h3 : w7 i2 = some (.inr (2, [.ref (B + a2), .ref (B + b2)])) := (fr9 _ (by omega)).trans h3
  have h4 : w7 a2 = some (kl_aI G 24 T2) := (fr9 _ (by omega)).trans h4
  have h5 : w7 b2 = some (kl_aI G 96 C2) := (fr9 _ (by omega)).trans h5
  obtain ⟨w10, f11, fr12, hP⟩ := kl_arr (g := C2) hP f8 (fun j hj => pk_cpy_in (Nat.zero_le _) (by omega) |>.trans (by rw [Nat.zero_add, Nat.sub_zero]))
  have h0 : w10 i = some (.inr (2, [.ref (B + a), .ref (B + b)])) := (fr12 _ (by omega)).trans h0
  have f5 : w10 a = some (kl_aI G 24 T2) := (fr12 _ (by omega)).trans f5
  have h3 : w10 i2 = some (.inr (2, [.ref (B + a2), .ref (B + b2)])) := (fr12 _ (by omega)).trans h3
  have h4 : w10 a2 = some (kl_aI G 24 T2) := (fr12 _ (by omega)).trans h4
  have h5 : w10 b2 = some (kl_aI G 96 C2) := (fr12 _ (by omega)).trans h5
  exact kl_vret hx hb hr hlocks hP ⟨f5, f11, fun j h1 h2 => by grind⟩ dX2_become_30
