abbrev rm_J7_fill_53178 : Room := { frames := 0, cells := 0, slots := 0, locals := 0 }
set_option maxHeartbeats 4000000 in
set_option maxRecDepth 100000 in
theorem c_J7_fill_53178 (l : Launch) (G : kl_G) (B : Nat) (w : kl_M) (i n z : Nat) {f : Nat → Int32} (x : Int32) (h0 : w i = some (kl_aI G n f)) (hn : n < 2 ^ 31) : Met l yJ7_fill_53178 wsJ7_fill_53178 rm_J7_fill_53178 (kl_Pz G B z w [.ref (B + i), .int x]) (kl_Qz G B 0 (fun w1 => w1 i = some (kl_aI G n (fun _ => x)) ∧ ∀ j, j ≠ i → w1 j = w j)) 0 0 (kl_fr B) := by
  refine Met.ofW (cc := cJ7_fill_53178) (maxL := 4) (ret := none) (by decide) rfl ?_
  intro pg e s m args below meth cd s₁ Bd hml hv
  obtain ⟨rfl, hsz, hP0, hK⟩ := hv
  have hx := Bd.exec
  have hb := Bd.bytes
  have hr := Bd.returns
  have hts := atoms_spec (ws := wsJ7_fill_53178) Bd.pre
  have hown : s.vm.findClass RJ7 = some m.cls := findClass_of_methodNamed Bd.named
  have hlocks := Bd.notSynchronized
  have hP := kl_S.rf hP0
  have hl := lv_entry ([.ref (B + i), .int x]) (n := 4) (Nat.le_of_ble_eq_true rfl)
  rw [lg_entry_eq]
  generalize (lg_sl ([.ref (B + i), .int x]) ++ List.replicate (4 - (lg_sl ([.ref (B + i), .int x])).length) Slot.unset).toArray = ls at hl ⊢
  have hl : lv_has ls 4 [(0, .ref (B + i)), (1, .int x)] := hl
  have frm : ∀ j : Nat, j ≠ i → w j = w j := fun j _ => rfl
  have hz0 : s.heap.size = z + 0 := hsz
  refine lv_iconst (v := nI 0) hx hb dJ7_fill_53178_0 (by decide) ?_
  refine lv_istore_n (lv' := [(2, .int (nI 0)), (0, .ref (B + i)), (1, .int x)]) hx hb dJ7_fill_53178_1 rfl hl (by decide) rfl (fun ls hl => ?_)
  refine lv_aload_n hx hb dJ7_fill_53178_2 rfl (lv_at hl 1 rfl) ?_
  refine kl_alen hx hb hK hP 0 (k0 := 0) h0 rfl dJ7_fill_53178_3 ?_
  refine kl_top (z := nI n) rfl ?_
  refine lv_istore_n (lv' := [(3, .int (nI n)), (2, .int (nI 0)), (0, .ref (B + i)), (1, .int x)]) hx hb dJ7_fill_53178_4 rfl hl (by decide) rfl (fun ls hl => ?_)
  have lp5 : ∀ (n5 : Nat) (p : Nat) (g : Nat → Int32), n - p < n5 → (p ≤ n) → (∀ q, q < p → g q = x) → ∀ (w1 : kl_M) (H : Heap) (locs : List Loc), w1 i = some (kl_aI G n g) → (∀ j : Nat, j ≠ i → w1 j = w j) → (H.size = z + 0) → kl_S G B w1 s.heap H locs → ∀ ls : Array Slot, lv_has ls 4 [(0, .ref (B + i)), (1, .int x), (2, .int (nI p)), (3, .int (nI n))] → W pg l e rm_J7_fill_53178 s m ([.ref (B + i), .int x] : List Value).toArray below meth cd H locs (0) (0) (MQ below (kl_Qz G B 0 (fun w1 => w1 i = some (kl_aI G n (fun _ => x)) ∧ ∀ j, j ≠ i → w1 j = w j)) ([.ref (B + i), .int x] : List Value).toArray s 0 0 (kl_fr B)) (F0 m 5 ls []) := by
    intro n5
    induction n5 with
    | zero => intro p g hm; exact absurd hm (Nat.not_lt_zero _)
    | succ n5 ih5 =>
      intro p g hm hp hg w1 H locs h0 frm zz5 hP ls hl
      refine lv_iload_n hx hb dJ7_fill_53178_5 rfl (lv_at hl 2 rfl) ?_
      refine lv_iload_n hx hb dJ7_fill_53178_6 rfl (lv_at hl 3 rfl) ?_
      refine kl_ge (tgt := 20) hx hb (by omega) (by omega) dJ7_fill_53178_7 (by decide) (fun c7 => ?_) (fun c7 => ?_)
      · obtain ⟨w9, f9, fr9, hP⟩ := kl_arr (g := fun _ => x) hP h0 (fun q hq => hg q (by omega))
        have frm : ∀ j : Nat, j ≠ i → w9 j = w j := fun j k0 => (fr9 j k0).trans (frm j k0)
        exact kl_vretz hx hb hr hlocks hP ⟨f9, frm⟩ (by omega) dJ7_fill_53178_20
      · refine lv_aload_n hx hb dJ7_fill_53178_10 rfl (lv_at hl 0 rfl) ?_
        refine lv_iload_n hx hb dJ7_fill_53178_11 rfl (lv_at hl 2 rfl) ?_
        refine lv_iload_n hx hb dJ7_fill_53178_12 rfl (lv_at hl 1 rfl) ?_
        refine kl_iast hx hb hK hP h0 (by omega) (by omega) dJ7_fill_53178_13 (fun w1 H locs f2 fr3 hzw1 hP => ?_)
        have z4 : H.size = z + 0 := by omega
        have frm : ∀ j : Nat, j ≠ i → w1 j = w j := fun j k0 => (fr3 j k0).trans (frm j k0)
        refine lv_iinc (v := nI (p + 1)) (lv' := [(2, .int (nI (p + 1))), (0, .ref (B + i)), (1, .int x), (3, .int (nI n))]) hx hb dJ7_fill_53178_14 hl (k := 2) rfl (nI_1 _) (by decide) rfl (fun ls hl => ?_)
        refine lv_goto (tgt := 5) hx hb dJ7_fill_53178_17 (by decide) ?_
        exact ih5 (p + 1) (upd g p x) (by omega) (by first | omega | grind) (mt_upd_lt hg) _ _ _ f2 frm (by omega) hP ls (lv_sub hl [1, 2, 0, 3] rfl)
  exact lp5 (n + 1) 0 f (Nat.lt_succ_of_le (by omega)) (by first | omega | grind) (fun q hq => absurd hq (Nat.not_lt_zero q)) _ _ _ h0 frm (by omega) hP ls (lv_sub hl [2, 3, 1, 0] rfl)

abbrev rm_J7_copyOf_59c91 : Room := { frames := 1, cells := 1, slots := 10, locals := 40 }
set_option maxHeartbeats 4000000 in
set_option maxRecDepth 100000 in
theorem c_J7_copyOf_59c91 (l : Launch) (G : kl_G) (B : Nat) (w : kl_M) (i n len : Nat) {f : Nat → Int32} (h0 : w i = some (kl_aI G len f)) (hn : n ≤ len) (hl2 : n ≤ 10) (hl3 : len < 2 ^ 20) : Met l yJ7_copyOf_59c91 wsJ7_copyOf_59c91 rm_J7_copyOf_59c91 (kl_Pc G B w [.ref (B + i), .int (nI n)]) (kl_Qr G B (fun r w1 => w1 r = some (kl_aI G n f) ∧ (∀ j, j ≠ r → w1 j = w j) ∧ ∀ (j : Nat) (e : va_E), w j = some e → j < r)) 1 10 (kl_fr B) := by
  refine Met.ofW (cc := cJ7_copyOf_59c91) (maxL := 3) (ret := (some (.array .int))) (by decide) rfl ?_
  intro pg e s m args below meth cd s₁ Bd hml hv
  obtain ⟨rfl, hP0, hK⟩ := hv
  have hx := Bd.exec
  have hb := Bd.bytes
  have hr := Bd.returns
  have hts := atoms_spec (ws := wsJ7_copyOf_59c91) Bd.pre
  have hown : s.vm.findClass RJ7 = some m.cls := findClass_of_methodNamed Bd.named
  have hlocks := Bd.notSynchronized
  have hP := kl_S.rf hP0
  have hl := lv_entry ([.ref (B + i), .int (nI n)]) (n := 3) (Nat.le_of_ble_eq_true rfl)
  rw [lg_entry_eq]
  generalize (lg_sl ([.ref (B + i), .int (nI n)]) ++ List.replicate (3 - (lg_sl ([.ref (B + i), .int (nI n)])).length) Slot.unset).toArray = ls at hl ⊢
  have hl : lv_has ls 3 [(0, .ref (B + i)), (1, .int (nI n))] := hl
  have frm : ∀ (j : Nat) (e : va_E), w j = some e → w j = some e := fun j e hj  => hj
  have hold : ∀ (j : Nat) (e : va_E), w j = some e → B + j < s.heap.size := fun j e h => hP.lt h
  refine lv_iload_n hx hb dJ7_copyOf_59c91_0 rfl (lv_at hl 1 rfl) ?_
  refine lv_aload_n hx hb dJ7_copyOf_59c91_1 rfl (lv_at hl 0 rfl) ?_
  refine kl_alen hx hb hK hP 0 (k0 := 0) h0 rfl dJ7_copyOf_59c91_2 ?_
  refine kl_top (z := nI len) rfl ?_
  refine kl_ne (tgt := 14) hx hb (by omega) (by omega) dJ7_copyOf_59c91_3 (by decide) (fun c3 => ?_) (fun c3 => ?_)
  · refine lv_iload_n hx hb dJ7_copyOf_59c91_14 rfl (lv_at hl 1 rfl) ?_
    have hle := hP.2.1.1
    have lh0 := hP.lt h0
    refine kl_newI hx hb (hts (.arrayClass .int) (by decide +kernel)) hK hP (n := n) (by omega) (Nat.le_of_ble_eq_true rfl) (by first | exact Nat.le_of_ble_eq_true rfl | (show 0 + n ≤ 10; omega)) dJ7_copyOf_59c91_15 (fun a1 w2 H hq5 f3 fr4 hzw2 hP => ?_)
    have hgea1 : s.heap.size ≤ B + a1 := by omega
    have f3 : w2 a1 = some (kl_aI G n ((fun _ => 0))) := f3
    have h0 : w2 i = some (kl_aI G len f) := (fr4 _ (by omega)).trans h0
    have frm : ∀ (j : Nat) (e : va_E), w j = some e → w2 j = some e := fun j e hj  => (fr4 j (by have := hold j e hj; omega)).trans (frm j e hj )
    refine lv_astore_n (lv' := [(2, .ref (B + a1)), (0, .ref (B + i)), (1, .int (nI n))]) hx hb dJ7_copyOf_59c91_17 rfl hl (by decide) rfl (fun ls hl => ?_)
    refine lv_aload_n hx hb dJ7_copyOf_59c91_18 rfl (lv_at hl 1 rfl) ?_
    refine lv_iconst (v := nI 0) hx hb dJ7_copyOf_59c91_19 (by decide) ?_
    refine lv_aload_n hx hb dJ7_copyOf_59c91_20 rfl (lv_at hl 0 rfl) ?_
    refine lv_iconst (v := nI 0) hx hb dJ7_copyOf_59c91_21 (by decide) ?_
    refine lv_aload_n hx hb dJ7_copyOf_59c91_22 rfl (lv_at hl 1 rfl) ?_
    refine kl_alen hx hb hK hP 0 (k0 := 0) h0 rfl dJ7_copyOf_59c91_23 ?_
    refine kl_top (z := nI len) rfl ?_
    refine lv_iload_n hx hb dJ7_copyOf_59c91_24 rfl (lv_at hl 2 rfl) ?_
    refine va_mmin hx hb (hml.trans hl.1.symm) hown (hts (.methodLink RJ7 304 Lib.Math.min.name) (by decide +kernel)) (hts (.static Lib.Math.min.name) (by decide +kernel)) (hts (.initialized "java/lang/Math") (by decide +kernel)) (hts (.code Lib.Math.min.name Lib.Math.min.code 2 (some .int)) (by decide +kernel)) (Nat.le_of_ble_eq_true rfl) (Nat.le_of_ble_eq_true rfl) (Nat.le_of_ble_eq_true rfl) (by show 0 + n ≤ 10; omega) dJ7_copyOf_59c91_25 ?_
    refine kl_top (z := nI n) (mt_min (by omega) (by omega)) ?_
    refine kl_copyi hx hb (hml.trans hl.1.symm) hown (hts (.methodLink RJ7 150 arraycopyName) (by decide +kernel)) (hts (.native arraycopyName) (by decide +kernel)) (hts (.static arraycopyName) (by decide +kernel)) (hts (.initialized "java/lang/System") (by decide +kernel)) hK hP h0 f3 (by omega) (by omega) (by omega) (Nat.le_of_ble_eq_true rfl) (Nat.le_of_ble_eq_true (by decide)) dJ7_copyOf_59c91_28 (fun w6 H locs f7 fr8 hzw6 hP => ?_)
    have h0 : w6 i = some (kl_aI G len f) := (fr8 _ (by omega)).trans h0
    have frm : ∀ (j : Nat) (e : va_E), w j = some e → w6 j = some e := fun j e hj  => (fr8 j (by have := hold j e hj; omega)).trans (frm j e hj )
    obtain ⟨w9, f9, fr9, hP⟩ := kl_arr (g := f) hP f7 (fun q hq => (pk_cpy_in (Nat.zero_le _) (by omega)).trans (by rw [Nat.zero_add, Nat.sub_zero]))
    have fra : ∀ j, j ≠ a1 → w9 j = w j := fun j hj => by rw [fr9 j hj, fr8 j hj, fr4 j hj]
    refine lv_aload_n hx hb dJ7_copyOf_59c91_31 rfl (lv_at hl 0 rfl) ?_
    refine W.widen (k := 1) (n := 10) (by omega) (by omega) ?_
    exact kl_aret hx hb hr (Or.inr ⟨_, rfl⟩) hlocks hP ⟨f9, fra, fun j e hj => by have := hold j e hj; omega⟩ dJ7_copyOf_59c91_32
  · refine lv_aload_n hx hb dJ7_copyOf_59c91_6 rfl (lv_at hl 0 rfl) ?_
    have hle := hP.2.1.1
    have lh0 := hP.lt h0
    refine kl_clone hx hb (hml.trans hl.1.symm) hown (hts (.methodLink RJ7 316 ⟨"[I", "clone", "()Ljava/lang/Object;"⟩) (by decide +kernel)) (hts (.sameMethod "[I" "java/lang/Object" "clone" "()Ljava/lang/Object;") (by decide +kernel)) (hts (.native ⟨"java/lang/Object", "clone", "()Ljava/lang/Object;"⟩) (by decide +kernel)) (hts (.instanceMethod ⟨"java/lang/Object", "clone", "()Ljava/lang/Object;"⟩) (by decide +kernel)) (hts (.selects "[I" ⟨"[I", "clone", "()Ljava/lang/Object;"⟩ ⟨"java/lang/Object", "clone", "()Ljava/lang/Object;"⟩) (by decide +kernel)) hK hP h0 (Nat.le_of_ble_eq_true rfl) (Nat.le_of_ble_eq_true rfl) (Nat.le_of_ble_eq_true rfl) (by show 0 + len ≤ 10; omega) dJ7_copyOf_59c91_7 (fun a9 w10 H hq13 f11 fr12 hzw10 hP => ?_)
    have hgea9 : s.heap.size ≤ B + a9 := by omega
    have f11 : w10 a9 = some (kl_aI G len f) := f11
    have h0 : w10 i = some (kl_aI G len f) := (fr12 _ (by omega)).trans h0
    have frm : ∀ (j : Nat) (e : va_E), w j = some e → w10 j = some e := fun j e hj  => (fr12 j (by have := hold j e hj; omega)).trans (frm j e hj )
    rw [show len = n by omega] at f11
    have fra : ∀ j, j ≠ a9 → w10 j = w j := fun j hj => fr12 j hj
    refine va_castA hx hb hown (hts (.classLink RJ7 317 "[I") (by decide +kernel)) (hP.one f11) 0 rfl (hK.1.2 0 (G.2 0, .int) rfl).2 dJ7_copyOf_59c91_10 ?_
    refine W.widen (k := 1) (n := 10) (by omega) (by omega) ?_
    exact kl_aret hx hb hr (Or.inr ⟨_, rfl⟩) hlocks hP ⟨f11, fra, fun j e hj => by have := hold j e hj; omega⟩ dJ7_copyOf_59c91_13

abbrev rm_X2_init : Room := { frames := 1, cells := 2, slots := 120, locals := 23 }
set_option maxHeartbeats 4000000 in
set_option maxRecDepth 100000 in
theorem c_X2_init (l : Launch) (G : kl_G) (B : Nat) (w : kl_M) (i q : Nat) (h0 : w i = some (.inr (2, [.null, .null]))) (hiq : i < q) : Met l yX2_init wsX2_init rm_X2_init (kl_Pz G B (B + q) w [.ref (B + i)]) (kl_Qz G B 2 (fun w1 => w1 i = some (.inr (2, [.ref (B + q), .ref (B + (q + 1))])) ∧ w1 q = some (kl_aI G 24 (fun _ => (-1))) ∧ w1 (q + 1) = some (kl_aI G 96 (fun _ => 0)) ∧ ∀ j, j ≠ i → j ≠ q → j ≠ q + 1 → w1 j = w j)) 2 120 (kl_fr B) := by
  refine Met.ofW (cc := cX2_init) (maxL := 1) (ret := none) (by decide) rfl ?_
  intro pg e s m args below meth cd s₁ Bd hml hv
  obtain ⟨rfl, hsz, hP0, hK⟩ := hv
  have hx := Bd.exec
  have hb := Bd.bytes
  have hr := Bd.returns
  have hts := atoms_spec (ws := wsX2_init) Bd.pre
  have hown : s.vm.findClass RX2 = some m.cls := findClass_of_methodNamed Bd.named
  have hlocks := Bd.notSynchronized
  have hin2 : meth.name = "<init>" := (name_of_methodNamed Bd.named Bd.method).1
  have hinX2 : ∀ w ∈ u_ws RX2 TX2 2, w ∈ wsX2_init := by decide +kernel
  have hP := kl_S.rf hP0
  have hl := lv_entry ([.ref (B + i)]) (n := 1) (Nat.le_of_ble_eq_true rfl)
  rw [lg_entry_eq]
  generalize (lg_sl ([.ref (B + i)]) ++ List.replicate (1 - (lg_sl ([.ref (B + i)])).length) Slot.unset).toArray = ls at hl ⊢
  have hl : lv_has ls 1 [(0, .ref (B + i))] := hl
  have frm : ∀ j : Nat, j ≠ i → j ≠ q → j ≠ (q + 1) → w j = w j := fun j _ _ _ => rfl
  have hz0 : s.heap.size = B + q + 0 := hsz
  refine lv_aload_n hx hb dX2_init_0 rfl (lv_at hl 0 rfl) ?_
  refine W.objInit hx hb hown (hts (.methodLink RX2 3 objectInit) (by decide +kernel)) (hts (.instanceMethod objectInit) (by decide +kernel)) (hts (.code objectInit ⟨#[0xb1]⟩ 1 none) (by decide +kernel)) rfl (by rw [hml]; exact hl.1) rfl dX2_init_1 (Nat.le_of_ble_eq_true rfl) (Nat.le_of_ble_eq_true rfl) ?_
  refine W.eq (g2 := F0 m 4 ls []) rfl ?_
  refine lv_aload_n hx hb dX2_init_4 rfl (lv_at hl 0 rfl) ?_
  refine lv_bipush (v := nI 24) hx hb dX2_init_5 (by decide) ?_
  refine kl_newI hx hb (hts (.arrayClass .int) (by decide +kernel)) hK hP (n := 24) (by omega) (Nat.le_of_ble_eq_true rfl) (by first | exact Nat.le_of_ble_eq_true rfl | (show 0 + 24 ≤ 120; omega)) dX2_init_7 (fun a1 w2 H hq5 f3 fr4 hzw2 hP => ?_)
  have z6 : H.size = B + q + 1 := by omega
  obtain rfl : q = a1 := by omega
  have f3 : w2 q = some (kl_aI G 24 ((fun _ => 0))) := f3
  have h0 : w2 i = some (.inr (2, [.null, .null])) := (fr4 _ (by omega)).trans h0
  have frm : ∀ j : Nat, j ≠ i → j ≠ q → j ≠ (q + 1) → w2 j = w j := fun j k0 k1 k2 => (fr4 j k1).trans (frm j k0 k1 k2)
  refine kl_putF (C := RX2) (T := TX2) (N := 2) (ci := 2) (v := .ref (B + q)) (ty := (.array .int)) hx hb hts hinX2 tyX2 tyX2_ok nmX2 hown hK hP h0 rfl 0 (by decide) (hts (.fieldLink RX2 9 "KinLedger$Rows" "tables" "[I") (by decide +kernel)) (fun _ h9 => h9) rfl hin2 rfl (by decide +kernel) rfl rfl (Nat.le_of_ble_eq_true rfl) dX2_init_9 (fun w7 H locs f8 fr9 hzw7 hP => ?_)
  have z10 : H.size = B + q + 1 := by omega
  have f8 : w7 i = some (.inr (2, [.ref (B + q), .null])) := f8
  have f3 : w7 q = some (kl_aI G 24 ((fun _ => 0))) := (fr9 _ (by omega)).trans f3
  have frm : ∀ j : Nat, j ≠ i → j ≠ q → j ≠ (q + 1) → w7 j = w j := fun j k0 k1 k2 => (fr9 j k0).trans (frm j k0 k1 k2)
  refine lv_aload_n hx hb dX2_init_12 rfl (lv_at hl 0 rfl) ?_
  refine lv_bipush (v := nI 96) hx hb dX2_init_13 (by decide) ?_
  refine kl_newI hx hb (hts (.arrayClass .int) (by decide +kernel)) hK hP (n := 96) (by omega) (Nat.le_of_ble_eq_true rfl) (by first | exact Nat.le_of_ble_eq_true rfl | (show 0 + 24 + 96 ≤ 120; omega)) dX2_init_15 (fun a11 w12 H hq15 f13 fr14 hzw12 hP => ?_)
  have z16 : H.size = B + q + 2 := by omega
  obtain rfl : q + 1 = a11 := by omega
  have f13 : w12 (q + 1) = some (kl_aI G 96 ((fun _ => 0))) := f13
  have f8 : w12 i = some (.inr (2, [.ref (B + q), .null])) := (fr14 _ (by omega)).trans f8
  have f3 : w12 q = some (kl_aI G 24 ((fun _ => 0))) := (fr14 _ (by omega)).trans f3
  have frm : ∀ j : Nat, j ≠ i → j ≠ q → j ≠ (q + 1) → w12 j = w j := fun j k0 k1 k2 => (fr14 j k2).trans (frm j k0 k1 k2)
  refine kl_putF (C := RX2) (T := TX2) (N := 2) (ci := 2) (v := .ref (B + (q + 1))) (ty := (.array .int)) hx hb hts hinX2 tyX2 tyX2_ok nmX2 hown hK hP f8 rfl 1 (by decide) (hts (.fieldLink RX2 15 "KinLedger$Rows" "cells" "[I") (by decide +kernel)) (fun _ h9 => h9) rfl hin2 rfl (by decide +kernel) rfl rfl (Nat.le_of_ble_eq_true rfl) dX2_init_17 (fun w17 H locs f18 fr19 hzw17 hP => ?_)
  have z20 : H.size = B + q + 2 := by omega
  have f18 : w17 i = some (.inr (2, [.ref (B + q), .ref (B + (q + 1))])) := f18
  have f3 : w17 q = some (kl_aI G 24 ((fun _ => 0))) := (fr19 _ (by omega)).trans f3
  have f13 : w17 (q + 1) = some (kl_aI G 96 ((fun _ => 0))) := (fr19 _ (by omega)).trans f13
  have frm : ∀ j : Nat, j ≠ i → j ≠ q → j ≠ (q + 1) → w17 j = w j := fun j k0 k1 k2 => (fr19 j k0).trans (frm j k0 k1 k2)
  refine lv_aload_n hx hb dX2_init_20 rfl (lv_at hl 0 rfl) ?_
  refine kl_get (C := RX2) (T := TX2) (N := 2) (ci := 2) hx hb hts hinX2 hown hK hP f18 rfl 0 (by decide) (hts (.fieldLink RX2 9 "KinLedger$Rows" "tables" "[I") (by decide +kernel)) (fun _ h9 => h9) rfl dX2_init_21 ?_
  refine lv_iconst (v := (-1)) hx hb dX2_init_24 (by decide) ?_
  refine kl_cSz (As := [.ref (B + q), .int ((-1))]) (rest := []) ⟨hx, hb, hml, hown, hts⟩ (c_J7_fill_53178 l G B _ q 24 _ ((-1)) f3 (by omega)) (va_cwS 2 hts gX2_init_J7_fill_53178 rfl rfl rfl (by decide +kernel) ⟨Nat.le_of_ble_eq_true rfl, Nat.le_of_ble_eq_true rfl⟩) (by first | omega | rfl) hK hP rfl hl.1 rfl (Nat.le_of_ble_eq_true rfl) dX2_init_25 ⟨Nat.le_of_ble_eq_true rfl, Nat.le_of_ble_eq_true rfl⟩ (fun w21 H locs q22 hzw21 hP => ?_)
  have z24 : H.size = B + q + 2 := by omega
  obtain ⟨f25, fr26⟩ := q22
  have f18 : w21 i = some (.inr (2, [.ref (B + q), .ref (B + (q + 1))])) := (fr26 _ (by omega)).trans f18
  have f13 : w21 (q + 1) = some (kl_aI G 96 ((fun _ => 0))) := (fr26 _ (by omega)).trans f13
  have frm : ∀ j : Nat, j ≠ i → j ≠ q → j ≠ (q + 1) → w21 j = w j := fun j k0 k1 k2 => (fr26 j k1).trans (frm j k0 k1 k2)
  refine W.widen (k := 2) (n := 120) (by omega) (by omega) ?_
  exact kl_vretz hx hb hr hlocks hP ⟨f18, f25, f13, frm⟩ (by omega) dX2_init_28

abbrev rm_X1_init : Room := { frames := 1, cells := 0, slots := 0, locals := 12 }
set_option maxHeartbeats 4000000 in
set_option maxRecDepth 100000 in
theorem c_X1_init (l : Launch) (G : kl_G) (B : Nat) (w : kl_M) (k z : Nat) (ch : Int32) (co : Nat) (pa wy : Int32) (h0 : w k = some (.inr (1, [.int (nI 0), .int (nI 0), .int (nI 0), .int (nI 0)])))  : Met l yX1_init wsX1_init rm_X1_init (kl_Pz G B z w [.ref (B + k), .int ch, .int (nI co), .int pa, .int wy]) (kl_Qz G B 0 (fun w1 => w1 k = some (.inr (1, [.int ch, .int (nI co), .int pa, .int wy])) ∧ ∀ j, j ≠ k → w1 j = w j)) 0 0 (kl_fr B) := by
  refine Met.ofW (cc := cX1_init) (maxL := 5) (ret := none) (by decide) rfl ?_
  intro pg e s m args below meth cd s₁ Bd hml hv
  obtain ⟨rfl, hsz, hP0, hK⟩ := hv
  have hx := Bd.exec
  have hb := Bd.bytes
  have hr := Bd.returns
  have hts := atoms_spec (ws := wsX1_init) Bd.pre
  have hown : s.vm.findClass RX1 = some m.cls := findClass_of_methodNamed Bd.named
  have hlocks := Bd.notSynchronized
  have hin2 : meth.name = "<init>" := (name_of_methodNamed Bd.named Bd.method).1
  have hinX1 : ∀ w ∈ u_ws RX1 TX1 4, w ∈ wsX1_init := by decide +kernel
  have hP := kl_S.rf hP0
  have hl := lv_entry ([.ref (B + k), .int ch, .int (nI co), .int pa, .int wy]) (n := 5) (Nat.le_of_ble_eq_true rfl)
  rw [lg_entry_eq]
  generalize (lg_sl ([.ref (B + k), .int ch, .int (nI co), .int pa, .int wy]) ++ List.replicate (5 - (lg_sl ([.ref (B + k), .int ch, .int (nI co), .int pa, .int wy])).length) Slot.unset).toArray = ls at hl ⊢
  have hl : lv_has ls 5 [(0, .ref (B + k)), (1, .int ch), (2, .int (nI co)), (3, .int pa), (4, .int wy)] := hl
  have frm : ∀ j : Nat, j ≠ k → w j = w j := fun j _ => rfl
  have hz0 : s.heap.size = z + 0 := hsz
  refine lv_aload_n hx hb dX1_init_0 rfl (lv_at hl 0 rfl) ?_
  refine W.objInit hx hb hown (hts (.methodLink RX1 3 objectInit) (by decide +kernel)) (hts (.instanceMethod objectInit) (by decide +kernel)) (hts (.code objectInit ⟨#[0xb1]⟩ 1 none) (by decide +kernel)) rfl (by rw [hml]; exact hl.1) rfl dX1_init_1 (Nat.le_of_ble_eq_true rfl) (Nat.le_of_ble_eq_true rfl) ?_
  refine W.eq (g2 := F0 m 4 ls []) rfl ?_
  refine lv_aload_n hx hb dX1_init_4 rfl (lv_at hl 0 rfl) ?_
  refine lv_iload_n hx hb dX1_init_5 rfl (lv_at hl 1 rfl) ?_
  refine kl_putF (C := RX1) (T := TX1) (N := 4) (ci := 1) (v := .int ch) (ty := .int) hx hb hts hinX1 tyX1 tyX1_ok nmX1 hown hK hP h0 rfl 0 (by decide) (hts (.fieldLink RX1 9 "KinLedger$Link" "child" "I") (by decide +kernel)) (fun _ h9 => h9) rfl hin2 rfl (by decide +kernel) rfl rfl (Nat.le_of_ble_eq_true rfl) dX1_init_6 (fun w1 H locs f2 fr3 hzw1 hP => ?_)
  have z4 : H.size = z + 0 := by omega
  have f2 : w1 k = some (.inr (1, [.int ch, .int (nI 0), .int (nI 0), .int (nI 0)])) := f2
  have frm : ∀ j : Nat, j ≠ k → w1 j = w j := fun j k0 => (fr3 j k0).trans (frm j k0)
  refine lv_aload_n hx hb dX1_init_9 rfl (lv_at hl 0 rfl) ?_
  refine lv_iload_n hx hb dX1_init_10 rfl (lv_at hl 2 rfl) ?_
  refine kl_putF (C := RX1) (T := TX1) (N := 4) (ci := 1) (v := .int (nI co)) (ty := .int) hx hb hts hinX1 tyX1 tyX1_ok nmX1 hown hK hP f2 rfl 1 (by decide) (hts (.fieldLink RX1 15 "KinLedger$Link" "column" "I") (by decide +kernel)) (fun _ h9 => h9) rfl hin2 rfl (by decide +kernel) rfl rfl (Nat.le_of_ble_eq_true rfl) dX1_init_11 (fun w5 H locs f6 fr7 hzw5 hP => ?_)
  have z8 : H.size = z + 0 := by omega
  have f6 : w5 k = some (.inr (1, [.int ch, .int (nI co), .int (nI 0), .int (nI 0)])) := f6
  have frm : ∀ j : Nat, j ≠ k → w5 j = w j := fun j k0 => (fr7 j k0).trans (frm j k0)
  refine lv_aload_n hx hb dX1_init_14 rfl (lv_at hl 0 rfl) ?_
  refine lv_iload_n hx hb dX1_init_15 rfl (lv_at hl 3 rfl) ?_
  refine kl_putF (C := RX1) (T := TX1) (N := 4) (ci := 1) (v := .int pa) (ty := .int) hx hb hts hinX1 tyX1 tyX1_ok nmX1 hown hK hP f6 rfl 2 (by decide) (hts (.fieldLink RX1 18 "KinLedger$Link" "parent" "I") (by decide +kernel)) (fun _ h9 => h9) rfl hin2 rfl (by decide +kernel) rfl rfl (Nat.le_of_ble_eq_true rfl) dX1_init_16 (fun w9 H locs f10 fr11 hzw9 hP => ?_)
  have z12 : H.size = z + 0 := by omega
  have f10 : w9 k = some (.inr (1, [.int ch, .int (nI co), .int pa, .int (nI 0)])) := f10
  have frm : ∀ j : Nat, j ≠ k → w9 j = w j := fun j k0 => (fr11 j k0).trans (frm j k0)
  refine lv_aload_n hx hb dX1_init_19 rfl (lv_at hl 0 rfl) ?_
  refine lv_iload hx hb dX1_init_20 (lv_at hl 4 rfl) ?_
  refine kl_putF (C := RX1) (T := TX1) (N := 4) (ci := 1) (v := .int wy) (ty := .int) hx hb hts hinX1 tyX1 tyX1_ok nmX1 hown hK hP f10 rfl 3 (by decide) (hts (.fieldLink RX1 21 "KinLedger$Link" "way" "I") (by decide +kernel)) (fun _ h9 => h9) rfl hin2 rfl (by decide +kernel) rfl rfl (Nat.le_of_ble_eq_true rfl) dX1_init_22 (fun w13 H locs f14 fr15 hzw13 hP => ?_)
  have z16 : H.size = z + 0 := by omega
  have f14 : w13 k = some (.inr (1, [.int ch, .int (nI co), .int pa, .int wy])) := f14
  have frm : ∀ j : Nat, j ≠ k → w13 j = w j := fun j k0 => (fr15 j k0).trans (frm j k0)
  exact kl_vretz hx hb hr hlocks hP ⟨f14, frm⟩ (by omega) dX1_init_25

abbrev rm_X3_init : Room := { frames := 1, cells := 0, slots := 0, locals := 12 }
set_option maxHeartbeats 4000000 in
set_option maxRecDepth 100000 in
theorem c_X3_init (l : Launch) (G : kl_G) (B : Nat) (w : kl_M) (k z : Nat) (tb : Int32) (co : Nat) (h0 : w k = some (.inr (3, [.int (nI 0), .int (nI 0)])))  : Met l yX3_init wsX3_init rm_X3_init (kl_Pz G B z w [.ref (B + k), .int tb, .int (nI co)]) (kl_Qz G B 0 (fun w1 => w1 k = some (.inr (3, [.int tb, .int (nI co)])) ∧ ∀ j, j ≠ k → w1 j = w j)) 0 0 (kl_fr B) := by
  refine Met.ofW (cc := cX3_init) (maxL := 3) (ret := none) (by decide) rfl ?_
  intro pg e s m args below meth cd s₁ Bd hml hv
  obtain ⟨rfl, hsz, hP0, hK⟩ := hv
  have hx := Bd.exec
  have hb := Bd.bytes
  have hr := Bd.returns
  have hts := atoms_spec (ws := wsX3_init) Bd.pre
  have hown : s.vm.findClass RX3 = some m.cls := findClass_of_methodNamed Bd.named
  have hlocks := Bd.notSynchronized
  have hin2 : meth.name = "<init>" := (name_of_methodNamed Bd.named Bd.method).1
  have hinX3 : ∀ w ∈ u_ws RX3 TX3 2, w ∈ wsX3_init := by decide +kernel
  have hP := kl_S.rf hP0
  have hl := lv_entry ([.ref (B + k), .int tb, .int (nI co)]) (n := 3) (Nat.le_of_ble_eq_true rfl)
  rw [lg_entry_eq]
  generalize (lg_sl ([.ref (B + k), .int tb, .int (nI co)]) ++ List.replicate (3 - (lg_sl ([.ref (B + k), .int tb, .int (nI co)])).length) Slot.unset).toArray = ls at hl ⊢
  have hl : lv_has ls 3 [(0, .ref (B + k)), (1, .int tb), (2, .int (nI co))] := hl
  have frm : ∀ j : Nat, j ≠ k → w j = w j := fun j _ => rfl
  have hz0 : s.heap.size = z + 0 := hsz
  refine lv_aload_n hx hb dX3_init_0 rfl (lv_at hl 0 rfl) ?_
  refine W.objInit hx hb hown (hts (.methodLink RX3 1 objectInit) (by decide +kernel)) (hts (.instanceMethod objectInit) (by decide +kernel)) (hts (.code objectInit ⟨#[0xb1]⟩ 1 none) (by decide +kernel)) rfl (by rw [hml]; exact hl.1) rfl dX3_init_1 (Nat.le_of_ble_eq_true rfl) (Nat.le_of_ble_eq_true rfl) ?_
  refine W.eq (g2 := F0 m 4 ls []) rfl ?_
  refine lv_aload_n hx hb dX3_init_4 rfl (lv_at hl 0 rfl) ?_
  refine lv_iload_n hx hb dX3_init_5 rfl (lv_at hl 1 rfl) ?_
  refine kl_putF (C := RX3) (T := TX3) (N := 2) (ci := 3) (v := .int tb) (ty := .int) hx hb hts hinX3 tyX3 tyX3_ok nmX3 hown hK hP h0 rfl 0 (by decide) (hts (.fieldLink RX3 7 "KinLedger$Single" "table" "I") (by decide +kernel)) (fun _ h9 => h9) rfl hin2 rfl (by decide +kernel) rfl rfl (Nat.le_of_ble_eq_true rfl) dX3_init_6 (fun w1 H locs f2 fr3 hzw1 hP => ?_)
  have z4 : H.size = z + 0 := by omega
  have f2 : w1 k = some (.inr (3, [.int tb, .int (nI 0)])) := f2
  have frm : ∀ j : Nat, j ≠ k → w1 j = w j := fun j k0 => (fr3 j k0).trans (frm j k0)
  refine lv_aload_n hx hb dX3_init_9 rfl (lv_at hl 0 rfl) ?_
  refine lv_iload_n hx hb dX3_init_10 rfl (lv_at hl 2 rfl) ?_
  refine kl_putF (C := RX3) (T := TX3) (N := 2) (ci := 3) (v := .int (nI co)) (ty := .int) hx hb hts hinX3 tyX3 tyX3_ok nmX3 hown hK hP f2 rfl 1 (by decide) (hts (.fieldLink RX3 13 "KinLedger$Single" "column" "I") (by decide +kernel)) (fun _ h9 => h9) rfl hin2 rfl (by decide +kernel) rfl rfl (Nat.le_of_ble_eq_true rfl) dX3_init_11 (fun w5 H locs f6 fr7 hzw5 hP => ?_)
  have z8 : H.size = z + 0 := by omega
  have f6 : w5 k = some (.inr (3, [.int tb, .int (nI co)])) := f6
  have frm : ∀ j : Nat, j ≠ k → w5 j = w j := fun j k0 => (fr7 j k0).trans (frm j k0)
  exact kl_vretz hx hb hr hlocks hP ⟨f6, frm⟩ (by omega) dX3_init_14

abbrev rm_X1_refers : Room := { frames := 1, cells := 0, slots := 0, locals := 22 }
set_option maxHeartbeats 4000000 in
set_option maxRecDepth 100000 in
theorem c_X1_refers (l : Launch) (G : kl_G) (B : Nat) (w : kl_M) (i a b : Nat) {T C : Nat → Int32} (k : Nat) {ch : Int32} {co : Nat} {pa wy : Int32} (p : Nat) (h3 : w k = some (.inr (1, [.int ch, .int (nI co), .int pa, .int wy]))) (h0 : w i = some (.inr (2, [.ref (B + a), .ref (B + b)]))) (h1 : w a = some (kl_aI G 24 T)) (h2 : w b = some (kl_aI G 96 C)) (hp : p < 24) (hco : co < 4) : Met l yX1_refers wsX1_refers rm_X1_refers (kl_Pc G B w [.ref (B + k), .ref (B + i), .int (nI p)]) (kl_Qi G B (fun r w1 => w = w1 ∧ kl_b r (T p = ch ∧ C (4 * p + co) ≠ 0))) 0 0 (kl_fr B) := by
  refine Met.ofW (cc := cX1_refers) (maxL := 3) (ret := (some .boolean)) (by decide) rfl ?_
  intro pg e s m args below meth cd s₁ Bd hml hv
  obtain ⟨rfl, hP0, hK⟩ := hv
  have hx := Bd.exec
  have hb := Bd.bytes
  have hr := Bd.returns
  have hts := atoms_spec (ws := wsX1_refers) Bd.pre
  have hown : s.vm.findClass RX1 = some m.cls := findClass_of_methodNamed Bd.named
  have hlocks := Bd.notSynchronized
  have hinX1 : ∀ w ∈ u_ws RX1 TX1 4, w ∈ wsX1_refers := by decide +kernel
  have hP := kl_S.rf hP0
  have hl := lv_entry ([.ref (B + k), .ref (B + i), .int (nI p)]) (n := 3) (Nat.le_of_ble_eq_true rfl)
  rw [lg_entry_eq]
  generalize (lg_sl ([.ref (B + k), .ref (B + i), .int (nI p)]) ++ List.replicate (3 - (lg_sl ([.ref (B + k), .ref (B + i), .int (nI p)])).length) Slot.unset).toArray = ls at hl ⊢
  have hl : lv_has ls 3 [(0, .ref (B + k)), (1, .ref (B + i)), (2, .int (nI p))] := hl
  refine lv_aload_n hx hb dX1_refers_0 rfl (lv_at hl 1 rfl) ?_
  refine lv_iload_n hx hb dX1_refers_1 rfl (lv_at hl 2 rfl) ?_
  refine lv_aload_n hx hb dX1_refers_2 rfl (lv_at hl 0 rfl) ?_
  refine kl_get (C := RX1) (T := TX1) (N := 4) (ci := 1) hx hb hts hinX1 hown hK hP h3 rfl 0 (by decide) (hts (.fieldLink RX1 9 "KinLedger$Link" "child" "I") (by decide +kernel)) (fun _ h9 => h9) rfl dX1_refers_3 ?_
  refine kl_cVi (C := RX2) (i := i) (As := [.int (nI p), .int ch]) (rest := []) ⟨hx, hb, hml, hown, hts⟩ (c_X2_holds l G B _ i a b p ch h0 h1 h2 (by omega)) (cwV 2 hts gX1_refers_X2_holds rfl rfl rfl (by decide +kernel) ⟨Nat.le_of_ble_eq_true rfl, Nat.le_of_ble_eq_true rfl⟩) hK hP h0 rfl rfl hl.1 rfl (Nat.le_of_ble_eq_true rfl) dX1_refers_6 ⟨Nat.le_of_ble_eq_true rfl, Nat.le_of_ble_eq_true rfl⟩ (fun r3 w1 H locs q2 hP => ?_)
  obtain ⟨rfl, hv4⟩ := q2
  refine kl_ifeq (tgt := 28) hx hb hv4 dX1_refers_9 (by decide) (fun c9 => ?_) (fun c9 => ?_)
  · refine lv_iconst (v := nI 0) hx hb dX1_refers_28 (by decide) ?_
    exact kl_zret hx hb hr hlocks (by decide) hP ⟨rfl, kl_b.f (fun z => c9 z.1)⟩ dX1_refers_29
  · refine lv_aload_n hx hb dX1_refers_12 rfl (lv_at hl 1 rfl) ?_
    refine lv_iload_n hx hb dX1_refers_13 rfl (lv_at hl 2 rfl) ?_
    refine lv_aload_n hx hb dX1_refers_14 rfl (lv_at hl 0 rfl) ?_
    refine kl_get (C := RX1) (T := TX1) (N := 4) (ci := 1) hx hb hts hinX1 hown hK hP h3 rfl 1 (by decide) (hts (.fieldLink RX1 15 "KinLedger$Link" "column" "I") (by decide +kernel)) (fun _ h9 => h9) rfl dX1_refers_15 ?_
    refine kl_cVi (C := RX2) (i := i) (As := [.int (nI p), .int (nI co)]) (rest := []) ⟨hx, hb, hml, hown, hts⟩ (c_X2_at l G B _ i a b p co h0 h1 h2 (by omega) (by omega)) (cwV 2 hts gX1_refers_X2_at rfl rfl rfl (by decide +kernel) ⟨Nat.le_of_ble_eq_true rfl, Nat.le_of_ble_eq_true rfl⟩) hK hP h0 rfl rfl hl.1 rfl (Nat.le_of_ble_eq_true rfl) dX1_refers_18 ⟨Nat.le_of_ble_eq_true rfl, Nat.le_of_ble_eq_true rfl⟩ (fun r7 w5 H locs q6 hP => ?_)
    obtain ⟨rfl, rfl⟩ := q6
    refine kl_top (z := C (4 * p + co)) rfl ?_
    refine lv_if_eq (tgt := 28) hx hb dX1_refers_21 (by decide) (fun c21 => ?_) (fun c21 => ?_)
    · refine lv_iconst (v := nI 0) hx hb dX1_refers_28 (by decide) ?_
      exact kl_zret hx hb hr hlocks (by decide) hP ⟨rfl, kl_b.f (fun z => z.2 c21)⟩ dX1_refers_29
    · refine lv_iconst (v := nI 1) hx hb dX1_refers_24 (by decide) ?_
      refine lv_goto (tgt := 29) hx hb dX1_refers_25 (by decide) ?_
      exact kl_zret hx hb hr hlocks (by decide) hP ⟨rfl, kl_b.t ⟨c9, c21⟩⟩ dX1_refers_29

abbrev rm_X1_target : Room := { frames := 2, cells := 0, slots := 0, locals := 45 }
set_option maxHeartbeats 4000000 in
set_option maxRecDepth 100000 in
theorem c_X1_target (l : Launch) (G : kl_G) (B : Nat) (w : kl_M) (i a b : Nat) {T C : Nat → Int32} (k : Nat) {ch : Int32} {co : Nat} {pa wy : Int32} (p : Nat) (h3 : w k = some (.inr (1, [.int ch, .int (nI co), .int pa, .int wy]))) (h0 : w i = some (.inr (2, [.ref (B + a), .ref (B + b)]))) (h1 : w a = some (kl_aI G 24 T)) (h2 : w b = some (kl_aI G 96 C)) (hp : p < 24) (hco : co < 4) : Met l yX1_target wsX1_target rm_X1_target (kl_Pc G B w [.ref (B + k), .ref (B + i), .int (nI p)]) (kl_Qi G B (fun r w1 => w = w1 ∧ mt_tgt T C ch co pa p r)) 0 0 (kl_fr B) := by
  refine Met.ofW (cc := cX1_target) (maxL := 3) (ret := (some .int)) (by decide) rfl ?_
  intro pg e s m args below meth cd s₁ Bd hml hv
  obtain ⟨rfl, hP0, hK⟩ := hv
  have hx := Bd.exec
  have hb := Bd.bytes
  have hr := Bd.returns
  have hts := atoms_spec (ws := wsX1_target) Bd.pre
  have hown : s.vm.findClass RX1 = some m.cls := findClass_of_methodNamed Bd.named
  have hlocks := Bd.notSynchronized
  have hinX1 : ∀ w ∈ u_ws RX1 TX1 4, w ∈ wsX1_target := by decide +kernel
  have hP := kl_S.rf hP0
  have hl := lv_entry ([.ref (B + k), .ref (B + i), .int (nI p)]) (n := 3) (Nat.le_of_ble_eq_true rfl)
  rw [lg_entry_eq]
  generalize (lg_sl ([.ref (B + k), .ref (B + i), .int (nI p)]) ++ List.replicate (3 - (lg_sl ([.ref (B + k), .ref (B + i), .int (nI p)])).length) Slot.unset).toArray = ls at hl ⊢
  have hl : lv_has ls 3 [(0, .ref (B + k)), (1, .ref (B + i)), (2, .int (nI p))] := hl
  refine lv_aload_n hx hb dX1_target_0 rfl (lv_at hl 0 rfl) ?_
  refine lv_aload_n hx hb dX1_target_1 rfl (lv_at hl 1 rfl) ?_
  refine lv_iload_n hx hb dX1_target_2 rfl (lv_at hl 2 rfl) ?_
  refine kl_cVi (C := RX1) (i := k) (As := [.ref (B + i), .int (nI p)]) (rest := []) ⟨hx, hb, hml, hown, hts⟩ (c_X1_refers l G B _ i a b k p h3 h0 h1 h2 (by omega) (by omega)) (cwV 2 hts gX1_target_X1_refers rfl rfl rfl (by decide +kernel) ⟨Nat.le_of_ble_eq_true rfl, Nat.le_of_ble_eq_true rfl⟩) hK hP h3 rfl rfl hl.1 rfl (Nat.le_of_ble_eq_true rfl) dX1_target_3 ⟨Nat.le_of_ble_eq_true rfl, Nat.le_of_ble_eq_true rfl⟩ (fun r3 w1 H locs q2 hP => ?_)
  obtain ⟨rfl, hv4⟩ := q2
  refine kl_ifeq (tgt := 29) hx hb hv4 dX1_target_6 (by decide) (fun c6 => ?_) (fun c6 => ?_)
  · refine lv_iconst (v := (-1)) hx hb dX1_target_29 (by decide) ?_
    exact kl_iret hx hb hr hlocks hP ⟨rfl, Or.inl ⟨rfl, fun q hq z => c6 ⟨z.1, z.2.1⟩⟩⟩ dX1_target_30
  · refine lv_aload_n hx hb dX1_target_9 rfl (lv_at hl 1 rfl) ?_
    refine lv_aload_n hx hb dX1_target_10 rfl (lv_at hl 0 rfl) ?_
    refine kl_get (C := RX1) (T := TX1) (N := 4) (ci := 1) hx hb hts hinX1 hown hK hP h3 rfl 2 (by decide) (hts (.fieldLink RX1 18 "KinLedger$Link" "parent" "I") (by decide +kernel)) (fun _ h9 => h9) rfl dX1_target_11 ?_
    refine lv_aload_n hx hb dX1_target_14 rfl (lv_at hl 1 rfl) ?_
    refine lv_iload_n hx hb dX1_target_15 rfl (lv_at hl 2 rfl) ?_
    refine lv_aload_n hx hb dX1_target_16 rfl (lv_at hl 0 rfl) ?_
    refine kl_get (C := RX1) (T := TX1) (N := 4) (ci := 1) hx hb hts hinX1 hown hK hP h3 rfl 1 (by decide) (hts (.fieldLink RX1 15 "KinLedger$Link" "column" "I") (by decide +kernel)) (fun _ h9 => h9) rfl dX1_target_17 ?_
    refine kl_cVi (C := RX2) (i := i) (As := [.int (nI p), .int (nI co)]) (rest := [.int pa, .ref (B + i)]) ⟨hx, hb, hml, hown, hts⟩ (c_X2_at l G B _ i a b p co h0 h1 h2 (by omega) (by omega)) (cwV 2 hts gX1_target_X2_at rfl rfl rfl (by decide +kernel) ⟨Nat.le_of_ble_eq_true rfl, Nat.le_of_ble_eq_true rfl⟩) hK hP h0 rfl rfl hl.1 rfl (Nat.le_of_ble_eq_true rfl) dX1_target_20 ⟨Nat.le_of_ble_eq_true rfl, Nat.le_of_ble_eq_true rfl⟩ (fun r7 w5 H locs q6 hP => ?_)
    obtain ⟨rfl, rfl⟩ := q6
    refine kl_top (z := C (4 * p + co)) rfl ?_
    refine kl_cVi (C := RX2) (i := i) (As := [.int pa, .int (C (4 * p + co))]) (rest := []) ⟨hx, hb, hml, hown, hts⟩ (c_X2_find l G B _ i a b pa (C (4 * p + co)) h0 h1 h2 ) (cwV 2 hts gX1_target_X2_find rfl rfl rfl (by decide +kernel) ⟨Nat.le_of_ble_eq_true rfl, Nat.le_of_ble_eq_true rfl⟩) hK hP h0 rfl rfl hl.1 rfl (Nat.le_of_ble_eq_true rfl) dX1_target_23 ⟨Nat.le_of_ble_eq_true rfl, Nat.le_of_ble_eq_true rfl⟩ (fun r10 w8 H locs q9 hP => ?_)
    obtain ⟨rfl, hv11⟩ := q9
    rcases hv11 with ⟨rfl, hv11⟩ | ⟨p12, hp12, rfl, hv11⟩
    · refine lv_goto (tgt := 30) hx hb dX1_target_26 (by decide) ?_
      exact kl_iret hx hb hr hlocks hP ⟨rfl, Or.inl ⟨rfl, fun q hq z => hv11 q hq z.2.2⟩⟩ dX1_target_30
    · refine lv_goto (tgt := 30) hx hb dX1_target_26 (by decide) ?_
      exact kl_iret hx hb hr hlocks hP ⟨rfl, Or.inr ⟨p12, hp12, rfl, c6.1, c6.2, hv11⟩⟩ dX1_target_30

abbrev rm_X1_isBroken : Room := { frames := 3, cells := 0, slots := 0, locals := 67 }
set_option maxHeartbeats 4000000 in
set_option maxRecDepth 100000 in
theorem c_X1_isBroken (l : Launch) (G : kl_G) (B : Nat) (w : kl_M) (i a b : Nat) {T C : Nat → Int32} (k : Nat) {ch : Int32} {co : Nat} {pa wy : Int32} (h3 : w k = some (.inr (1, [.int ch, .int (nI co), .int pa, .int wy]))) (h0 : w i = some (.inr (2, [.ref (B + a), .ref (B + b)]))) (h1 : w a = some (kl_aI G 24 T)) (h2 : w b = some (kl_aI G 96 C)) (hco : co < 4) : Met l yX1_isBroken wsX1_isBroken rm_X1_isBroken (kl_Pc G B w [.ref (B + k), .ref (B + i)]) (kl_Qi G B (fun r w1 => w = w1 ∧ kl_b r (mt_lbrk T C ch co pa))) 0 0 (kl_fr B) := by
  refine Met.ofW (cc := cX1_isBroken) (maxL := 3) (ret := (some .boolean)) (by decide) rfl ?_
  intro pg e s m args below meth cd s₁ Bd hml hv
  obtain ⟨rfl, hP0, hK⟩ := hv
  have hx := Bd.exec
  have hb := Bd.bytes
  have hr := Bd.returns
  have hts := atoms_spec (ws := wsX1_isBroken) Bd.pre
  have hown : s.vm.findClass RX1 = some m.cls := findClass_of_methodNamed Bd.named
  have hlocks := Bd.notSynchronized
  have hP := kl_S.rf hP0
  have hl := lv_entry ([.ref (B + k), .ref (B + i)]) (n := 3) (Nat.le_of_ble_eq_true rfl)
  rw [lg_entry_eq]
  generalize (lg_sl ([.ref (B + k), .ref (B + i)]) ++ List.replicate (3 - (lg_sl ([.ref (B + k), .ref (B + i)])).length) Slot.unset).toArray = ls at hl ⊢
  have hl : lv_has ls 3 [(0, .ref (B + k)), (1, .ref (B + i))] := hl
  refine lv_iconst (v := nI 0) hx hb dX1_isBroken_0 (by decide) ?_
  refine lv_istore_n (lv' := [(2, .int (nI 0)), (0, .ref (B + k)), (1, .ref (B + i))]) hx hb dX1_isBroken_1 rfl hl (by decide) rfl (fun ls hl => ?_)
  have lp2 : ∀ (n2 : Nat) (p : Nat), 24 - p < n2 → (p ≤ 24) → (∀ q, q < p → ¬ ((T q = ch ∧ C (4 * q + co) ≠ 0) ∧ ∀ j, j < 24 → ¬ mt_ref T C ch co pa q j)) → ∀ (H : Heap) (locs : List Loc), kl_S G B w s.heap H locs → ∀ ls : Array Slot, lv_has ls 3 [(0, .ref (B + k)), (1, .ref (B + i)), (2, .int (nI p))] → W pg l e rm_X1_isBroken s m ([.ref (B + k), .ref (B + i)] : List Value).toArray below meth cd H locs (0) (0) (MQ below (kl_Qi G B (fun r w1 => w = w1 ∧ kl_b r (mt_lbrk T C ch co pa))) ([.ref (B + k), .ref (B + i)] : List Value).toArray s 0 0 (kl_fr B)) (F0 m 2 ls []) := by
    intro n2
    induction n2 with
    | zero => intro p hm; exact absurd hm (Nat.not_lt_zero _)
    | succ n2 ih2 =>
      intro p hm hp hno H locs  hP ls hl
      refine lv_iload_n hx hb dX1_isBroken_2 rfl (lv_at hl 2 rfl) ?_
      refine lv_bipush (v := nI 24) hx hb dX1_isBroken_3 (by decide) ?_
      refine kl_ge (tgt := 35) hx hb (by omega) (by omega) dX1_isBroken_5 (by decide) (fun c5 => ?_) (fun c5 => ?_)
      · refine lv_iconst (v := nI 0) hx hb dX1_isBroken_35 (by decide) ?_
        exact kl_zret hx hb hr hlocks (by decide) hP ⟨rfl, kl_b.f (fun ⟨q, hq, z⟩ => hno q (by omega) z)⟩ dX1_isBroken_36
      · refine lv_aload_n hx hb dX1_isBroken_8 rfl (lv_at hl 0 rfl) ?_
        refine lv_aload_n hx hb dX1_isBroken_9 rfl (lv_at hl 1 rfl) ?_
        refine lv_iload_n hx hb dX1_isBroken_10 rfl (lv_at hl 2 rfl) ?_
        refine kl_cVi (C := RX1) (i := k) (As := [.ref (B + i), .int (nI p)]) (rest := []) ⟨hx, hb, hml, hown, hts⟩ (c_X1_refers l G B _ i a b k p h3 h0 h1 h2 (by omega) (by omega)) (cwV 2 hts gX1_isBroken_X1_refers rfl rfl rfl (by decide +kernel) ⟨Nat.le_of_ble_eq_true rfl, Nat.le_of_ble_eq_true rfl⟩) hK hP h3 rfl rfl hl.1 rfl (Nat.le_of_ble_eq_true rfl) dX1_isBroken_11 ⟨Nat.le_of_ble_eq_true rfl, Nat.le_of_ble_eq_true rfl⟩ (fun r3 w1 H locs q2 hP => ?_)
        obtain ⟨rfl, hv4⟩ := q2
        refine kl_ifeq (tgt := 29) hx hb hv4 dX1_isBroken_14 (by decide) (fun c14 => ?_) (fun c14 => ?_)
        · refine lv_iinc (v := nI (p + 1)) (lv' := [(2, .int (nI (p + 1))), (0, .ref (B + k)), (1, .ref (B + i))]) hx hb dX1_isBroken_29 hl (k := 2) rfl (nI_1 _) (by decide) rfl (fun ls hl => ?_)
          refine lv_goto (tgt := 2) hx hb dX1_isBroken_32 (by decide) ?_
          exact ih2 (p + 1) (by omega) (by first | omega | grind) (lt_s hno (fun z => c14 z.1)) _ _ hP ls (lv_sub hl [1, 2, 0] rfl)
        · refine lv_aload_n hx hb dX1_isBroken_17 rfl (lv_at hl 0 rfl) ?_
          refine lv_aload_n hx hb dX1_isBroken_18 rfl (lv_at hl 1 rfl) ?_
          refine lv_iload_n hx hb dX1_isBroken_19 rfl (lv_at hl 2 rfl) ?_
          refine kl_cVi (C := RX1) (i := k) (As := [.ref (B + i), .int (nI p)]) (rest := []) ⟨hx, hb, hml, hown, hts⟩ (c_X1_target l G B _ i a b k p h3 h0 h1 h2 (by omega) (by omega)) (cwV 2 hts gX1_isBroken_X1_target rfl rfl rfl (by decide +kernel) ⟨Nat.le_of_ble_eq_true rfl, Nat.le_of_ble_eq_true rfl⟩) hK hP h3 rfl rfl hl.1 rfl (Nat.le_of_ble_eq_true rfl) dX1_isBroken_20 ⟨Nat.le_of_ble_eq_true rfl, Nat.le_of_ble_eq_true rfl⟩ (fun r7 w5 H locs q6 hP => ?_)
          obtain ⟨rfl, hv8⟩ := q6
          rcases hv8 with ⟨rfl, hv8⟩ | ⟨p9, hp9, rfl, hv8⟩
          · refine lv_iconst (v := (-1)) hx hb dX1_isBroken_23 (by decide) ?_
            refine lv_icmp_ne (tgt := 29) hx hb dX1_isBroken_24 (by decide) (fun c24 => absurd rfl c24) (fun c24 => ?_)
            refine lv_iconst (v := nI 1) hx hb dX1_isBroken_27 (by decide) ?_
            exact kl_zret hx hb hr hlocks (by decide) hP ⟨rfl, kl_b.t ⟨p, by omega, c14, hv8⟩⟩ dX1_isBroken_28
          · refine lv_iconst (v := (-1)) hx hb dX1_isBroken_23 (by decide) ?_
            refine lv_icmp_ne (tgt := 29) hx hb dX1_isBroken_24 (by decide) (fun c24 => ?_) (fun c24 => absurd c24 (kl_nm1 (by omega)))
            refine lv_iinc (v := nI (p + 1)) (lv' := [(2, .int (nI (p + 1))), (0, .ref (B + k)), (1, .ref (B + i))]) hx hb dX1_isBroken_29 hl (k := 2) rfl (nI_1 _) (by decide) rfl (fun ls hl => ?_)
            refine lv_goto (tgt := 2) hx hb dX1_isBroken_32 (by decide) ?_
            exact ih2 (p + 1) (by omega) (by first | omega | grind) (lt_s hno (fun z => z.2 p9 hp9 hv8)) _ _ hP ls (lv_sub hl [1, 2, 0] rfl)
  exact lp2 (24 + 1) 0 (Nat.lt_succ_of_le (by omega)) (by first | omega | grind) lt_0 _ _ hP ls (lv_sub hl [1, 2, 0] rfl)

abbrev rm_X3_isBroken : Room := { frames := 3, cells := 0, slots := 0, locals := 68 }
set_option maxHeartbeats 4000000 in
set_option maxRecDepth 100000 in
theorem c_X3_isBroken (l : Launch) (G : kl_G) (B : Nat) (w : kl_M) (i a b : Nat) {T C : Nat → Int32} (k : Nat) {tb : Int32} {co : Nat} (h3 : w k = some (.inr (3, [.int tb, .int (nI co)]))) (h0 : w i = some (.inr (2, [.ref (B + a), .ref (B + b)]))) (h1 : w a = some (kl_aI G 24 T)) (h2 : w b = some (kl_aI G 96 C)) (hco : co < 4) : Met l yX3_isBroken wsX3_isBroken rm_X3_isBroken (kl_Pc G B w [.ref (B + k), .ref (B + i)]) (kl_Qi G B (fun r w1 => w = w1 ∧ kl_b r (mt_twin T C tb co))) 0 0 (kl_fr B) := by
  refine Met.ofW (cc := cX3_isBroken) (maxL := 2) (ret := (some .boolean)) (by decide) rfl ?_
  intro pg e s m args below meth cd s₁ Bd hml hv
  obtain ⟨rfl, hP0, hK⟩ := hv
  have hx := Bd.exec
  have hb := Bd.bytes
  have hr := Bd.returns
  have hts := atoms_spec (ws := wsX3_isBroken) Bd.pre
  have hown : s.vm.findClass RX3 = some m.cls := findClass_of_methodNamed Bd.named
  have hlocks := Bd.notSynchronized
  have hinX3 : ∀ w ∈ u_ws RX3 TX3 2, w ∈ wsX3_isBroken := by decide +kernel
  have hP := kl_S.rf hP0
  have hl := lv_entry ([.ref (B + k), .ref (B + i)]) (n := 2) (Nat.le_of_ble_eq_true rfl)
  rw [lg_entry_eq]
  generalize (lg_sl ([.ref (B + k), .ref (B + i)]) ++ List.replicate (2 - (lg_sl ([.ref (B + k), .ref (B + i)])).length) Slot.unset).toArray = ls at hl ⊢
  have hl : lv_has ls 2 [(0, .ref (B + k)), (1, .ref (B + i))] := hl
  refine lv_aload_n hx hb dX3_isBroken_0 rfl (lv_at hl 1 rfl) ?_
  refine lv_aload_n hx hb dX3_isBroken_1 rfl (lv_at hl 0 rfl) ?_
  refine kl_get (C := RX3) (T := TX3) (N := 2) (ci := 3) hx hb hts hinX3 hown hK hP h3 rfl 0 (by decide) (hts (.fieldLink RX3 7 "KinLedger$Single" "table" "I") (by decide +kernel)) (fun _ h9 => h9) rfl dX3_isBroken_2 ?_
  refine lv_aload_n hx hb dX3_isBroken_5 rfl (lv_at hl 0 rfl) ?_
  refine kl_get (C := RX3) (T := TX3) (N := 2) (ci := 3) hx hb hts hinX3 hown hK hP h3 rfl 1 (by decide) (hts (.fieldLink RX3 13 "KinLedger$Single" "column" "I") (by decide +kernel)) (fun _ h9 => h9) rfl dX3_isBroken_6 ?_
  refine kl_cVi (C := RX2) (i := i) (As := [.int tb, .int (nI co)]) (rest := []) ⟨hx, hb, hml, hown, hts⟩ (c_X2_hasTwins l G B _ i a b tb co h0 h1 h2 (by omega)) (cwV 2 hts gX3_isBroken_X2_hasTwins rfl rfl rfl (by decide +kernel) ⟨Nat.le_of_ble_eq_true rfl, Nat.le_of_ble_eq_true rfl⟩) hK hP h0 rfl rfl hl.1 rfl (Nat.le_of_ble_eq_true rfl) dX3_isBroken_9 ⟨Nat.le_of_ble_eq_true rfl, Nat.le_of_ble_eq_true rfl⟩ (fun r3 w1 H locs q2 hP => ?_)
  obtain ⟨rfl, hv4⟩ := q2
  exact kl_zret hx hb hr hlocks hv4.nar hP ⟨rfl, hv4⟩ dX3_isBroken_12

abbrev rm_X0_isWord : Room := { frames := 0, cells := 0, slots := 0, locals := 0 }
set_option maxHeartbeats 4000000 in
set_option maxRecDepth 100000 in
theorem c_X0_isWord (l : Launch) (G : kl_G) (B : Nat) (w : kl_M) (n : Int32)  : Met l yX0_isWord wsX0_isWord rm_X0_isWord (kl_Pc G B w [.int n]) (kl_Qi G B (fun r w1 => w = w1 ∧ kl_b r (mt_word n))) 0 0 (kl_fr B) := by
  refine Met.ofW (cc := cX0_isWord) (maxL := 1) (ret := (some .boolean)) (by decide) rfl ?_
  intro pg e s m args below meth cd s₁ Bd hml hv
  obtain ⟨rfl, hP0, hK⟩ := hv
  have hx := Bd.exec
  have hb := Bd.bytes
  have hr := Bd.returns
  have hts := atoms_spec (ws := wsX0_isWord) Bd.pre
  have hown : s.vm.findClass RX0 = some m.cls := findClass_of_methodNamed Bd.named
  have hlocks := Bd.notSynchronized
  have hP := kl_S.rf hP0
  have hl := lv_entry ([.int n]) (n := 1) (Nat.le_of_ble_eq_true rfl)
  rw [lg_entry_eq]
  generalize (lg_sl ([.int n]) ++ List.replicate (1 - (lg_sl ([.int n])).length) Slot.unset).toArray = ls at hl ⊢
  have hl : lv_has ls 1 [(0, .int n)] := hl
  refine lv_iload_n hx hb dX0_isWord_0 rfl (lv_at hl 0 rfl) ?_
  refine lv_if_lt (tgt := 9) hx hb dX0_isWord_1 (by decide) (fun c1 => ?_) (fun c1 => ?_)
  · refine lv_iload_n hx hb dX0_isWord_9 rfl (lv_at hl 0 rfl) ?_
    refine lv_bipush (v := nI 10) hx hb dX0_isWord_10 (by decide) ?_
    refine lv_icmp_lt (tgt := 21) hx hb dX0_isWord_12 (by decide) (fun c12 => ?_) (fun c12 => ?_)
    · refine lv_iload_n hx hb dX0_isWord_21 rfl (lv_at hl 0 rfl) ?_
      refine lv_bipush (v := nI 100) hx hb dX0_isWord_22 (by decide) ?_
      refine lv_icmp_lt (tgt := 38) hx hb dX0_isWord_24 (by decide) (fun c24 => ?_) (fun c24 => ?_)
      · refine lv_iconst (v := nI 0) hx hb dX0_isWord_38 (by decide) ?_
        exact kl_zret hx hb hr hlocks (by decide) hP ⟨rfl, kl_b.f (by unfold mt_word; grind)⟩ dX0_isWord_39
      · refine lv_iload_n hx hb dX0_isWord_27 rfl (lv_at hl 0 rfl) ?_
        refine lv_sipush (v := nI 300) hx hb dX0_isWord_28 (by decide) ?_
        refine lv_icmp_gt (tgt := 38) hx hb dX0_isWord_31 (by decide) (fun c31 => ?_) (fun c31 => ?_)
        · refine lv_iconst (v := nI 0) hx hb dX0_isWord_38 (by decide) ?_
          exact kl_zret hx hb hr hlocks (by decide) hP ⟨rfl, kl_b.f (by unfold mt_word; grind)⟩ dX0_isWord_39
        · refine lv_iconst (v := nI 1) hx hb dX0_isWord_34 (by decide) ?_
          refine lv_goto (tgt := 39) hx hb dX0_isWord_35 (by decide) ?_
          exact kl_zret hx hb hr hlocks (by decide) hP ⟨rfl, kl_b.t (by unfold mt_word; grind)⟩ dX0_isWord_39
    · refine lv_iload_n hx hb dX0_isWord_15 rfl (lv_at hl 0 rfl) ?_
      refine lv_bipush (v := nI 17) hx hb dX0_isWord_16 (by decide) ?_
      refine lv_icmp_le (tgt := 34) hx hb dX0_isWord_18 (by decide) (fun c18 => ?_) (fun c18 => ?_)
      · refine lv_iconst (v := nI 1) hx hb dX0_isWord_34 (by decide) ?_
        refine lv_goto (tgt := 39) hx hb dX0_isWord_35 (by decide) ?_
        exact kl_zret hx hb hr hlocks (by decide) hP ⟨rfl, kl_b.t (by unfold mt_word; grind)⟩ dX0_isWord_39
      · refine lv_iload_n hx hb dX0_isWord_21 rfl (lv_at hl 0 rfl) ?_
        refine lv_bipush (v := nI 100) hx hb dX0_isWord_22 (by decide) ?_
        refine lv_icmp_lt (tgt := 38) hx hb dX0_isWord_24 (by decide) (fun c24 => ?_) (fun c24 => ?_)
        · refine lv_iconst (v := nI 0) hx hb dX0_isWord_38 (by decide) ?_
          exact kl_zret hx hb hr hlocks (by decide) hP ⟨rfl, kl_b.f (by unfold mt_word; grind)⟩ dX0_isWord_39
        · refine lv_iload_n hx hb dX0_isWord_27 rfl (lv_at hl 0 rfl) ?_
          refine lv_sipush (v := nI 300) hx hb dX0_isWord_28 (by decide) ?_
          refine lv_icmp_gt (tgt := 38) hx hb dX0_isWord_31 (by decide) (fun c31 => ?_) (fun c31 => ?_)
          · refine lv_iconst (v := nI 0) hx hb dX0_isWord_38 (by decide) ?_
            exact kl_zret hx hb hr hlocks (by decide) hP ⟨rfl, kl_b.f (by unfold mt_word; grind)⟩ dX0_isWord_39
          · refine lv_iconst (v := nI 1) hx hb dX0_isWord_34 (by decide) ?_
            refine lv_goto (tgt := 39) hx hb dX0_isWord_35 (by decide) ?_
            exact kl_zret hx hb hr hlocks (by decide) hP ⟨rfl, kl_b.t (by unfold mt_word; grind)⟩ dX0_isWord_39
  · refine lv_iload_n hx hb dX0_isWord_4 rfl (lv_at hl 0 rfl) ?_
    refine lv_iconst (v := nI 3) hx hb dX0_isWord_5 (by decide) ?_
    refine lv_icmp_le (tgt := 34) hx hb dX0_isWord_6 (by decide) (fun c6 => ?_) (fun c6 => ?_)
    · refine lv_iconst (v := nI 1) hx hb dX0_isWord_34 (by decide) ?_
      refine lv_goto (tgt := 39) hx hb dX0_isWord_35 (by decide) ?_
      exact kl_zret hx hb hr hlocks (by decide) hP ⟨rfl, kl_b.t (by unfold mt_word; grind)⟩ dX0_isWord_39
    · refine lv_iload_n hx hb dX0_isWord_9 rfl (lv_at hl 0 rfl) ?_
      refine lv_bipush (v := nI 10) hx hb dX0_isWord_10 (by decide) ?_
      refine lv_icmp_lt (tgt := 21) hx hb dX0_isWord_12 (by decide) (fun c12 => ?_) (fun c12 => ?_)
      · refine lv_iload_n hx hb dX0_isWord_21 rfl (lv_at hl 0 rfl) ?_
        refine lv_bipush (v := nI 100) hx hb dX0_isWord_22 (by decide) ?_
        refine lv_icmp_lt (tgt := 38) hx hb dX0_isWord_24 (by decide) (fun c24 => ?_) (fun c24 => ?_)
        · refine lv_iconst (v := nI 0) hx hb dX0_isWord_38 (by decide) ?_
          exact kl_zret hx hb hr hlocks (by decide) hP ⟨rfl, kl_b.f (by unfold mt_word; grind)⟩ dX0_isWord_39
        · refine lv_iload_n hx hb dX0_isWord_27 rfl (lv_at hl 0 rfl) ?_
          refine lv_sipush (v := nI 300) hx hb dX0_isWord_28 (by decide) ?_
          refine lv_icmp_gt (tgt := 38) hx hb dX0_isWord_31 (by decide) (fun c31 => ?_) (fun c31 => ?_)
          · refine lv_iconst (v := nI 0) hx hb dX0_isWord_38 (by decide) ?_
            exact kl_zret hx hb hr hlocks (by decide) hP ⟨rfl, kl_b.f (by unfold mt_word; grind)⟩ dX0_isWord_39
          · refine lv_iconst (v := nI 1) hx hb dX0_isWord_34 (by decide) ?_
            refine lv_goto (tgt := 39) hx hb dX0_isWord_35 (by decide) ?_
            exact kl_zret hx hb hr hlocks (by decide) hP ⟨rfl, kl_b.t (by unfold mt_word; grind)⟩ dX0_isWord_39
      · refine lv_iload_n hx hb dX0_isWord_15 rfl (lv_at hl 0 rfl) ?_
        refine lv_bipush (v := nI 17) hx hb dX0_isWord_16 (by decide) ?_
        refine lv_icmp_le (tgt := 34) hx hb dX0_isWord_18 (by decide) (fun c18 => ?_) (fun c18 => ?_)
        · refine lv_iconst (v := nI 1) hx hb dX0_isWord_34 (by decide) ?_
          refine lv_goto (tgt := 39) hx hb dX0_isWord_35 (by decide) ?_
          exact kl_zret hx hb hr hlocks (by decide) hP ⟨rfl, kl_b.t (by unfold mt_word; grind)⟩ dX0_isWord_39
        · refine lv_iload_n hx hb dX0_isWord_21 rfl (lv_at hl 0 rfl) ?_
          refine lv_bipush (v := nI 100) hx hb dX0_isWord_22 (by decide) ?_
          refine lv_icmp_lt (tgt := 38) hx hb dX0_isWord_24 (by decide) (fun c24 => ?_) (fun c24 => ?_)
          · refine lv_iconst (v := nI 0) hx hb dX0_isWord_38 (by decide) ?_
            exact kl_zret hx hb hr hlocks (by decide) hP ⟨rfl, kl_b.f (by unfold mt_word; grind)⟩ dX0_isWord_39
          · refine lv_iload_n hx hb dX0_isWord_27 rfl (lv_at hl 0 rfl) ?_
            refine lv_sipush (v := nI 300) hx hb dX0_isWord_28 (by decide) ?_
            refine lv_icmp_gt (tgt := 38) hx hb dX0_isWord_31 (by decide) (fun c31 => ?_) (fun c31 => ?_)
            · refine lv_iconst (v := nI 0) hx hb dX0_isWord_38 (by decide) ?_
              exact kl_zret hx hb hr hlocks (by decide) hP ⟨rfl, kl_b.f (by unfold mt_word; grind)⟩ dX0_isWord_39
            · refine lv_iconst (v := nI 1) hx hb dX0_isWord_34 (by decide) ?_
              refine lv_goto (tgt := 39) hx hb dX0_isWord_35 (by decide) ?_
              exact kl_zret hx hb hr hlocks (by decide) hP ⟨rfl, kl_b.t (by unfold mt_word; grind)⟩ dX0_isWord_39

abbrev rm_X0_taken : Room := { frames := 0, cells := 0, slots := 0, locals := 0 }
set_option maxHeartbeats 4000000 in
set_option maxRecDepth 100000 in
theorem c_X0_taken (l : Launch) (G : kl_G) (B : Nat) (w : kl_M) (n : Nat) (hn : n < 2 ^ 31) : Met l yX0_taken wsX0_taken rm_X0_taken (kl_Pc G B w [.int (nI n)]) (kl_Qi G B (fun r w1 => w = w1 ∧ r = nI (mt_tk n))) 0 0 (kl_fr B) := by
  refine Met.ofW (cc := cX0_taken) (maxL := 1) (ret := (some .int)) (by decide) rfl ?_
  intro pg e s m args below meth cd s₁ Bd hml hv
  obtain ⟨rfl, hP0, hK⟩ := hv
  have hx := Bd.exec
  have hb := Bd.bytes
  have hr := Bd.returns
  have hts := atoms_spec (ws := wsX0_taken) Bd.pre
  have hown : s.vm.findClass RX0 = some m.cls := findClass_of_methodNamed Bd.named
  have hlocks := Bd.notSynchronized
  have hP := kl_S.rf hP0
  have hl := lv_entry ([.int (nI n)]) (n := 1) (Nat.le_of_ble_eq_true rfl)
  rw [lg_entry_eq]
  generalize (lg_sl ([.int (nI n)]) ++ List.replicate (1 - (lg_sl ([.int (nI n)])).length) Slot.unset).toArray = ls at hl ⊢
  have hl : lv_has ls 1 [(0, .int (nI n))] := hl
  refine lv_iload_n hx hb dX0_taken_0 rfl (lv_at hl 0 rfl) ?_
  refine lv_bipush (v := nI 10) hx hb dX0_taken_1 (by decide) ?_
  refine kl_lt (tgt := 12) hx hb (by omega) (by omega) dX0_taken_3 (by decide) (fun c3 => ?_) (fun c3 => ?_)
  · refine lv_iconst (v := nI 0) hx hb dX0_taken_12 (by decide) ?_
    exact kl_iret hx hb hr hlocks hP ⟨rfl, congrArg nI (by unfold mt_tk; grind)⟩ dX0_taken_13
  · refine lv_iload_n hx hb dX0_taken_6 rfl (lv_at hl 0 rfl) ?_
    refine lv_bipush (v := nI 17) hx hb dX0_taken_7 (by decide) ?_
    refine kl_le (tgt := 14) hx hb (by omega) (by omega) dX0_taken_9 (by decide) (fun c9 => ?_) (fun c9 => ?_)
    · refine lv_iload_n hx hb dX0_taken_14 rfl (lv_at hl 0 rfl) ?_
      refine lv_bipush (v := nI 17) hx hb dX0_taken_15 (by decide) ?_
      refine kl_ne (tgt := 24) hx hb (by omega) (by omega) dX0_taken_17 (by decide) (fun c17 => ?_) (fun c17 => ?_)
      · refine lv_iconst (v := nI 2) hx hb dX0_taken_24 (by decide) ?_
        exact kl_iret hx hb hr hlocks hP ⟨rfl, congrArg nI (by unfold mt_tk; grind)⟩ dX0_taken_25
      · refine lv_iconst (v := nI 1) hx hb dX0_taken_20 (by decide) ?_
        refine lv_goto (tgt := 25) hx hb dX0_taken_21 (by decide) ?_
        exact kl_iret hx hb hr hlocks hP ⟨rfl, congrArg nI (by unfold mt_tk; grind)⟩ dX0_taken_25
    · refine lv_iconst (v := nI 0) hx hb dX0_taken_12 (by decide) ?_
      exact kl_iret hx hb hr hlocks hP ⟨rfl, congrArg nI (by unfold mt_tk; grind)⟩ dX0_taken_13

abbrev rm_X0_areRight : Room := { frames := 1, cells := 0, slots := 0, locals := 20 }
set_option maxHeartbeats 4000000 in
set_option maxRecDepth 100000 in
theorem c_X0_areRight (l : Launch) (G : kl_G) (B : Nat) (w : kl_M) (k n : Nat) {wd : Nat → Nat} (cols : Nat) (h0 : w k = some (kl_aI G n ((fun j => nI (wd j))))) (hw : ∀ j, j < n → wd j < 2 ^ 30) (hc : cols < 2 ^ 30) (hn : n < 2 ^ 20) : Met l yX0_areRight wsX0_areRight rm_X0_areRight (kl_Pc G B w [.ref (B + k), .int (nI cols)]) (kl_Qi G B (fun r w1 => w = w1 ∧ kl_b r (mt_right wd cols n))) 0 0 (kl_fr B) := by
  refine Met.ofW (cc := cX0_areRight) (maxL := 6) (ret := (some .boolean)) (by decide) rfl ?_
  intro pg e s m args below meth cd s₁ Bd hml hv
  obtain ⟨rfl, hP0, hK⟩ := hv
  have hx := Bd.exec
  have hb := Bd.bytes
  have hr := Bd.returns
  have hts := atoms_spec (ws := wsX0_areRight) Bd.pre
  have hown : s.vm.findClass RX0 = some m.cls := findClass_of_methodNamed Bd.named
  have hlocks := Bd.notSynchronized
  have hP := kl_S.rf hP0
  have hl := lv_entry ([.ref (B + k), .int (nI cols)]) (n := 6) (Nat.le_of_ble_eq_true rfl)
  rw [lg_entry_eq]
  generalize (lg_sl ([.ref (B + k), .int (nI cols)]) ++ List.replicate (6 - (lg_sl ([.ref (B + k), .int (nI cols)])).length) Slot.unset).toArray = ls at hl ⊢
  have hl : lv_has ls 6 [(0, .ref (B + k)), (1, .int (nI cols))] := hl
  refine lv_iconst (v := nI 0) hx hb dX0_areRight_0 (by decide) ?_
  refine lv_istore_n (lv' := [(2, .int (nI 0)), (0, .ref (B + k)), (1, .int (nI cols))]) hx hb dX0_areRight_1 rfl hl (by decide) rfl (fun ls hl => ?_)
  refine lv_iconst (v := nI 0) hx hb dX0_areRight_2 (by decide) ?_
  refine lv_istore_n (lv' := [(3, .int (nI 0)), (2, .int (nI 0)), (0, .ref (B + k)), (1, .int (nI cols))]) hx hb dX0_areRight_3 rfl hl (by decide) rfl (fun ls hl => ?_)
  have lp4 : ∀ (n4 : Nat) (p : Nat) (h : Nat), n - p < n4 → (p ≤ n) → (mt_h wd cols p = some h) → ∀ (H : Heap) (locs : List Loc), kl_S G B w s.heap H locs → ∀ ls : Array Slot, lv_has ls 6 [(0, .ref (B + k)), (1, .int (nI cols)), (2, .int (nI h)), (3, .int (nI p))] → W pg l e rm_X0_areRight s m ([.ref (B + k), .int (nI cols)] : List Value).toArray below meth cd H locs (0) (0) (MQ below (kl_Qi G B (fun r w1 => w = w1 ∧ kl_b r (mt_right wd cols n))) ([.ref (B + k), .int (nI cols)] : List Value).toArray s 0 0 (kl_fr B)) (F0 m 4 ls []) := by
    intro n4
    induction n4 with
    | zero => intro p h hm; exact absurd hm (Nat.not_lt_zero _)
    | succ n4 ih4 =>
      intro p h hm hp hh H locs  hP ls hl
      refine lv_iload_n hx hb dX0_areRight_4 rfl (lv_at hl 3 rfl) ?_
      refine lv_aload_n hx hb dX0_areRight_5 rfl (lv_at hl 0 rfl) ?_
      refine kl_alen hx hb hK hP 0 (k0 := 0) h0 rfl dX0_areRight_6 ?_
      refine kl_top (z := nI n) rfl ?_
      have hle2 := mt_h_le hh
      refine kl_ge (tgt := 65) hx hb (by omega) (by omega) dX0_areRight_7 (by decide) (fun c7 => ?_) (fun c7 => ?_)
      · refine lv_iload_n hx hb dX0_areRight_65 rfl (lv_at hl 2 rfl) ?_
        refine lv_iconst (v := nI 1) hx hb dX0_areRight_66 (by decide) ?_
        refine kl_ne (tgt := 74) hx hb (by omega) (by omega) dX0_areRight_67 (by decide) (fun c67 => ?_) (fun c67 => ?_)
        · refine lv_iconst (v := nI 0) hx hb dX0_areRight_74 (by decide) ?_
          exact kl_zret hx hb hr hlocks (by decide) hP ⟨rfl, kl_b.f (fun z => c67 (by have z : mt_h wd cols n = some 1 := z; rw [show n = p by omega, hh] at z; exact Option.some.inj z))⟩ dX0_areRight_75
        · refine lv_iconst (v := nI 1) hx hb dX0_areRight_70 (by decide) ?_
          refine lv_goto (tgt := 75) hx hb dX0_areRight_71 (by decide) ?_
          exact kl_zret hx hb hr hlocks (by decide) hP ⟨rfl, kl_b.t (by show mt_h wd cols n = some 1; rw [show n = p by omega, hh, c67])⟩ dX0_areRight_75
      · have hwp := hw p (by omega)
        have htk := mt_tk_le (wd p)
        refine lv_aload_n hx hb dX0_areRight_10 rfl (lv_at hl 0 rfl) ?_
        refine lv_iload_n hx hb dX0_areRight_11 rfl (lv_at hl 3 rfl) ?_
        refine kl_iald hx hb hK hP h0 (by omega) (by omega) dX0_areRight_12 ?_
        refine kl_top (z := nI (wd p)) rfl ?_
        refine kl_cSi (As := [.int (nI (wd p))]) (rest := []) ⟨hx, hb, hml, hown, hts⟩ (c_X0_taken l G B _ (wd p) (by omega)) (va_cwS 1 hts gX0_areRight_X0_taken rfl rfl rfl (by decide +kernel) ⟨Nat.le_of_ble_eq_true rfl, Nat.le_of_ble_eq_true rfl⟩) hK hP rfl hl.1 rfl (Nat.le_of_ble_eq_true rfl) dX0_areRight_13 ⟨Nat.le_of_ble_eq_true rfl, Nat.le_of_ble_eq_true rfl⟩ (fun r3 w1 H locs q2 hP => ?_)
        obtain ⟨rfl, rfl⟩ := q2
        refine lv_istore (lv' := [(4, .int (nI (mt_tk (wd p)))), (0, .ref (B + k)), (1, .int (nI cols)), (2, .int (nI h)), (3, .int (nI p))]) hx hb dX0_areRight_16 hl (by decide) rfl (fun ls hl => ?_)
        refine lv_aload_n hx hb dX0_areRight_18 rfl (lv_at hl 1 rfl) ?_
        refine lv_iload_n hx hb dX0_areRight_19 rfl (lv_at hl 4 rfl) ?_
        refine kl_iald hx hb hK hP h0 (by omega) (by omega) dX0_areRight_20 ?_
        refine kl_top (z := nI (wd p)) rfl ?_
        refine lv_iconst (v := nI 3) hx hb dX0_areRight_21 (by decide) ?_
        refine kl_gt (tgt := 36) hx hb (by omega) (by omega) dX0_areRight_22 (by decide) (fun c22 => ?_) (fun c22 => ?_)
        · refine lv_iconst (v := nI 0) hx hb dX0_areRight_36 (by decide) ?_
          refine lv_istore (lv' := [(5, .int (nI 0)), (4, .int (nI (mt_tk (wd p)))), (0, .ref (B + k)), (1, .int (nI cols)), (2, .int (nI h)), (3, .int (nI p))]) hx hb dX0_areRight_37 hl (by decide) rfl (fun ls hl => ?_)
          refine lv_iload hx hb dX0_areRight_39 (lv_at hl 0 rfl) ?_
          refine kl_z_ne (tgt := 50) hx hb (by omega) dX0_areRight_41 (by decide) (fun c41 => absurd c41 (by omega)) (fun c41 => ?_)
          refine lv_iload_n hx hb dX0_areRight_44 rfl (lv_at hl 4 rfl) ?_
          refine lv_iload hx hb dX0_areRight_45 (lv_at hl 1 rfl) ?_
          refine kl_ge (tgt := 52) hx hb (by omega) (by omega) dX0_areRight_47 (by decide) (fun c47 => ?_) (fun c47 => ?_)
          · refine lv_iload_n hx hb dX0_areRight_52 rfl (lv_at hl 4 rfl) ?_
            refine lv_iconst (v := nI 1) hx hb dX0_areRight_53 (by decide) ?_
            refine lv_iload hx hb dX0_areRight_54 (lv_at hl 1 rfl) ?_
            refine lv_isub hx hb dX0_areRight_56 ?_
            refine lv_iadd hx hb dX0_areRight_57 ?_
            refine kl_top (z := nI (h + 1 - mt_tk (wd p))) (mt_hs (by omega)) ?_
            refine lv_istore_n (lv' := [(2, .int (nI (h + 1 - mt_tk (wd p)))), (5, .int (nI 0)), (4, .int (nI (mt_tk (wd p)))), (0, .ref (B + k)), (1, .int (nI cols)), (3, .int (nI p))]) hx hb dX0_areRight_58 rfl hl (by decide) rfl (fun ls hl => ?_)
            refine lv_iinc (v := nI (p + 1)) (lv' := [(3, .int (nI (p + 1))), (2, .int (nI (h + 1 - mt_tk (wd p)))), (5, .int (nI 0)), (4, .int (nI (mt_tk (wd p)))), (0, .ref (B + k)), (1, .int (nI cols))]) hx hb dX0_areRight_59 hl (k := 5) rfl (nI_1 _) (by decide) rfl (fun ls hl => ?_)
            refine lv_goto (tgt := 4) hx hb dX0_areRight_62 (by decide) ?_
            exact ih4 (p + 1) (h + 1 - mt_tk (wd p)) (by omega) (by first | omega | grind) (mt_h_step hh (by omega)) _ _ hP ls (lv_sub hl [4, 5, 1, 0] rfl)
          · refine lv_iconst (v := nI 0) hx hb dX0_areRight_50 (by decide) ?_
            exact kl_zret hx hb hr hlocks (by decide) hP ⟨rfl, kl_b.f (fun z => by have z : mt_h wd cols n = some 1 := z; rw [mt_h_none (mt_h_bad hh (by omega)) n (by omega)] at z; cases z)⟩ dX0_areRight_51
        · refine lv_aload_n hx hb dX0_areRight_25 rfl (lv_at hl 1 rfl) ?_
          refine lv_iload_n hx hb dX0_areRight_26 rfl (lv_at hl 4 rfl) ?_
          refine kl_iald hx hb hK hP h0 (by omega) (by omega) dX0_areRight_27 ?_
          refine kl_top (z := nI (wd p)) rfl ?_
          refine lv_iload_n hx hb dX0_areRight_28 rfl (lv_at hl 2 rfl) ?_
          refine kl_lt (tgt := 36) hx hb (by omega) (by omega) dX0_areRight_29 (by decide) (fun c29 => ?_) (fun c29 => ?_)
          · refine lv_iconst (v := nI 0) hx hb dX0_areRight_36 (by decide) ?_
            refine lv_istore (lv' := [(5, .int (nI 0)), (4, .int (nI (mt_tk (wd p)))), (0, .ref (B + k)), (1, .int (nI cols)), (2, .int (nI h)), (3, .int (nI p))]) hx hb dX0_areRight_37 hl (by decide) rfl (fun ls hl => ?_)
            refine lv_iload hx hb dX0_areRight_39 (lv_at hl 0 rfl) ?_
            refine kl_z_ne (tgt := 50) hx hb (by omega) dX0_areRight_41 (by decide) (fun c41 => absurd c41 (by omega)) (fun c41 => ?_)
            refine lv_iload_n hx hb dX0_areRight_44 rfl (lv_at hl 4 rfl) ?_
            refine lv_iload hx hb dX0_areRight_45 (lv_at hl 1 rfl) ?_
            refine kl_ge (tgt := 52) hx hb (by omega) (by omega) dX0_areRight_47 (by decide) (fun c47 => ?_) (fun c47 => ?_)
            · refine lv_iload_n hx hb dX0_areRight_52 rfl (lv_at hl 4 rfl) ?_
              refine lv_iconst (v := nI 1) hx hb dX0_areRight_53 (by decide) ?_
              refine lv_iload hx hb dX0_areRight_54 (lv_at hl 1 rfl) ?_
              refine lv_isub hx hb dX0_areRight_56 ?_
              refine lv_iadd hx hb dX0_areRight_57 ?_
              refine kl_top (z := nI (h + 1 - mt_tk (wd p))) (mt_hs (by omega)) ?_
              refine lv_istore_n (lv' := [(2, .int (nI (h + 1 - mt_tk (wd p)))), (5, .int (nI 0)), (4, .int (nI (mt_tk (wd p)))), (0, .ref (B + k)), (1, .int (nI cols)), (3, .int (nI p))]) hx hb dX0_areRight_58 rfl hl (by decide) rfl (fun ls hl => ?_)
              refine lv_iinc (v := nI (p + 1)) (lv' := [(3, .int (nI (p + 1))), (2, .int (nI (h + 1 - mt_tk (wd p)))), (5, .int (nI 0)), (4, .int (nI (mt_tk (wd p)))), (0, .ref (B + k)), (1, .int (nI cols))]) hx hb dX0_areRight_59 hl (k := 5) rfl (nI_1 _) (by decide) rfl (fun ls hl => ?_)
              refine lv_goto (tgt := 4) hx hb dX0_areRight_62 (by decide) ?_
              exact ih4 (p + 1) (h + 1 - mt_tk (wd p)) (by omega) (by first | omega | grind) (mt_h_step hh (by omega)) _ _ hP ls (lv_sub hl [4, 5, 1, 0] rfl)
            · refine lv_iconst (v := nI 0) hx hb dX0_areRight_50 (by decide) ?_
              exact kl_zret hx hb hr hlocks (by decide) hP ⟨rfl, kl_b.f (fun z => by have z : mt_h wd cols n = some 1 := z; rw [mt_h_none (mt_h_bad hh (by omega)) n (by omega)] at z; cases z)⟩ dX0_areRight_51
          · refine lv_iconst (v := nI 1) hx hb dX0_areRight_32 (by decide) ?_
            refine lv_goto (tgt := 37) hx hb dX0_areRight_33 (by decide) ?_
            refine lv_istore (lv' := [(5, .int (nI 1)), (4, .int (nI (mt_tk (wd p)))), (0, .ref (B + k)), (1, .int (nI cols)), (2, .int (nI h)), (3, .int (nI p))]) hx hb dX0_areRight_37 hl (by decide) rfl (fun ls hl => ?_)
            refine lv_iload hx hb dX0_areRight_39 (lv_at hl 0 rfl) ?_
            refine kl_z_ne (tgt := 50) hx hb (by omega) dX0_areRight_41 (by decide) (fun c41 => ?_) (fun c41 => absurd c41 (by omega))
            refine lv_iconst (v := nI 0) hx hb dX0_areRight_50 (by decide) ?_
            exact kl_zret hx hb hr hlocks (by decide) hP ⟨rfl, kl_b.f (fun z => by have z : mt_h wd cols n = some 1 := z; rw [mt_h_none (mt_h_bad hh (by omega)) n (by omega)] at z; cases z)⟩ dX0_areRight_51
  exact lp4 (n + 1) 0 0 (Nat.lt_succ_of_le (by omega)) (by first | omega | grind) rfl _ _ hP ls (lv_sub hl [2, 3, 1, 0] rfl)

abbrev rm_X0_laid : Room := { frames := 1, cells := 0, slots := 0, locals := 22 }
set_option maxHeartbeats 4000000 in
set_option maxRecDepth 100000 in
theorem c_X0_laid (l : Launch) (G : kl_G) (B : Nat) (w : kl_M) (i a b : Nat) {T C : Nat → Int32} (n p : Nat) (h0 : w i = some (.inr (2, [.ref (B + a), .ref (B + b)]))) (h1 : w a = some (kl_aI G 24 T)) (h2 : w b = some (kl_aI G 96 C)) (hp : p < 24) (hn : n < 2 ^ 30) : Met l yX0_laid wsX0_laid rm_X0_laid (kl_Pc G B w [.int (nI n), .ref (B + i), .int (nI p)]) (kl_Qi G B (fun r w1 => w = w1 ∧ r = mt_lay (fun c => C (4 * p + c)) n)) 0 0 (kl_fr B) := by
  refine Met.ofW (cc := cX0_laid) (maxL := 3) (ret := (some .int)) (by decide) rfl ?_
  intro pg e s m args below meth cd s₁ Bd hml hv
  obtain ⟨rfl, hP0, hK⟩ := hv
  have hx := Bd.exec
  have hb := Bd.bytes
  have hr := Bd.returns
  have hts := atoms_spec (ws := wsX0_laid) Bd.pre
  have hown : s.vm.findClass RX0 = some m.cls := findClass_of_methodNamed Bd.named
  have hlocks := Bd.notSynchronized
  have hP := kl_S.rf hP0
  have hl := lv_entry ([.int (nI n), .ref (B + i), .int (nI p)]) (n := 3) (Nat.le_of_ble_eq_true rfl)
  rw [lg_entry_eq]
  generalize (lg_sl ([.int (nI n), .ref (B + i), .int (nI p)]) ++ List.replicate (3 - (lg_sl ([.int (nI n), .ref (B + i), .int (nI p)])).length) Slot.unset).toArray = ls at hl ⊢
  have hl : lv_has ls 3 [(0, .int (nI n)), (1, .ref (B + i)), (2, .int (nI p))] := hl
  refine lv_iload_n hx hb dX0_laid_0 rfl (lv_at hl 0 rfl) ?_
  refine lv_iconst (v := nI 3) hx hb dX0_laid_1 (by decide) ?_
  refine kl_gt (tgt := 14) hx hb (by omega) (by omega) dX0_laid_2 (by decide) (fun c2 => ?_) (fun c2 => ?_)
  · refine lv_iload_n hx hb dX0_laid_14 rfl (lv_at hl 0 rfl) ?_
    refine lv_sipush (v := nI 200) hx hb dX0_laid_15 (by decide) ?_
    refine lv_isub hx hb dX0_laid_18 ?_
    exact kl_iret hx hb hr hlocks hP ⟨rfl, by unfold mt_lay; rw [if_neg (by omega)]⟩ dX0_laid_19
  · refine lv_aload_n hx hb dX0_laid_5 rfl (lv_at hl 1 rfl) ?_
    refine lv_iload_n hx hb dX0_laid_6 rfl (lv_at hl 2 rfl) ?_
    refine lv_iload_n hx hb dX0_laid_7 rfl (lv_at hl 0 rfl) ?_
    refine kl_cVi (C := RX2) (i := i) (As := [.int (nI p), .int (nI n)]) (rest := []) ⟨hx, hb, hml, hown, hts⟩ (c_X2_at l G B _ i a b p n h0 h1 h2 (by omega) (by omega)) (cwV 2 hts gX0_laid_X2_at rfl rfl rfl (by decide +kernel) ⟨Nat.le_of_ble_eq_true rfl, Nat.le_of_ble_eq_true rfl⟩) hK hP h0 rfl rfl hl.1 rfl (Nat.le_of_ble_eq_true rfl) dX0_laid_8 ⟨Nat.le_of_ble_eq_true rfl, Nat.le_of_ble_eq_true rfl⟩ (fun r3 w1 H locs q2 hP => ?_)
    obtain ⟨rfl, rfl⟩ := q2
    refine kl_top (z := C (4 * p + n)) rfl ?_
    refine lv_goto (tgt := 19) hx hb dX0_laid_11 (by decide) ?_
    exact kl_iret hx hb hr hlocks hP ⟨rfl, by unfold mt_lay; rw [if_pos (by omega)]⟩ dX0_laid_19

abbrev rm_X0_worked : Room := { frames := 0, cells := 0, slots := 0, locals := 0 }
set_option maxHeartbeats 4000000 in
set_option maxRecDepth 100000 in
theorem c_X0_worked (l : Launch) (G : kl_G) (B : Nat) (w : kl_M) (k pi len : Nat) {tb : Int32} {wi : Nat} {g : Nat → Int32} (n h : Nat) (h0 : w k = some (.inr (0, [.int tb, .ref (B + wi), .ref (B + pi)]))) (h1 : w pi = some (kl_aI G len g)) (hn : 10 ≤ n ∧ n ≤ 17) (hh : h < len) (hh2 : n ≠ 17 → h + 1 < len) (hlen : len < 2 ^ 20) : Met l yX0_worked wsX0_worked rm_X0_worked (kl_Pc G B w [.ref (B + k), .int (nI n), .int (nI h)]) (kl_Qi G B (fun r w1 => w = w1 ∧ r = mt_op n (g h) (if n = 17 then 0 else g (h + 1)))) 0 0 (kl_fr B) := by
  refine Met.ofW (cc := cX0_worked) (maxL := 5) (ret := (some .int)) (by decide) rfl ?_
  intro pg e s m args below meth cd s₁ Bd hml hv
  obtain ⟨rfl, hP0, hK⟩ := hv
  have hx := Bd.exec
  have hb := Bd.bytes
  have hr := Bd.returns
  have hts := atoms_spec (ws := wsX0_worked) Bd.pre
  have hown : s.vm.findClass RX0 = some m.cls := findClass_of_methodNamed Bd.named
  have hlocks := Bd.notSynchronized
  have hinX0 : ∀ w ∈ u_ws RX0 TX0 3, w ∈ wsX0_worked := by decide +kernel
  have hP := kl_S.rf hP0
  have hl := lv_entry ([.ref (B + k), .int (nI n), .int (nI h)]) (n := 5) (Nat.le_of_ble_eq_true rfl)
  rw [lg_entry_eq]
  generalize (lg_sl ([.ref (B + k), .int (nI n), .int (nI h)]) ++ List.replicate (5 - (lg_sl ([.ref (B + k), .int (nI n), .int (nI h)])).length) Slot.unset).toArray = ls at hl ⊢
  have hl : lv_has ls 5 [(0, .ref (B + k)), (1, .int (nI n)), (2, .int (nI h))] := hl
  refine lv_aload_n hx hb dX0_worked_0 rfl (lv_at hl 0 rfl) ?_
  refine kl_get (C := RX0) (T := TX0) (N := 3) (ci := 0) hx hb hts hinX0 hown hK hP h0 rfl 2 (by decide) (hts (.fieldLink RX0 19 "KinLedger$Check" "pile" "[I") (by decide +kernel)) (fun _ h9 => h9) rfl dX0_worked_1 ?_
  refine lv_iload_n hx hb dX0_worked_4 rfl (lv_at hl 2 rfl) ?_
  refine kl_iald hx hb hK hP h1 (by omega) (by omega) dX0_worked_5 ?_
  refine lv_istore_n (lv' := [(3, .int (g h)), (0, .ref (B + k)), (1, .int (nI n)), (2, .int (nI h))]) hx hb dX0_worked_6 rfl hl (by decide) rfl (fun ls hl => ?_)
  refine lv_iload_n hx hb dX0_worked_7 rfl (lv_at hl 2 rfl) ?_
  refine lv_bipush (v := nI 17) hx hb dX0_worked_8 (by decide) ?_
  refine kl_ne (tgt := 17) hx hb (by omega) (by omega) dX0_worked_10 (by decide) (fun c10 => ?_) (fun c10 => ?_)
  · refine lv_aload_n hx hb dX0_worked_17 rfl (lv_at hl 1 rfl) ?_
    refine kl_get (C := RX0) (T := TX0) (N := 3) (ci := 0) hx hb hts hinX0 hown hK hP h0 rfl 2 (by decide) (hts (.fieldLink RX0 19 "KinLedger$Check" "pile" "[I") (by decide +kernel)) (fun _ h9 => h9) rfl dX0_worked_18 ?_
    refine lv_iload_n hx hb dX0_worked_21 rfl (lv_at hl 3 rfl) ?_
    refine lv_iconst (v := nI 1) hx hb dX0_worked_22 (by decide) ?_
    refine lv_iadd hx hb dX0_worked_23 ?_
    refine kl_top (z := nI (h + 1)) (by first | exact nI_add _ _ | (rw [nI_add]; first | rfl | (congr 1; omega))) ?_
    have hh3 := hh2 c10
    refine kl_iald hx hb hK hP h1 (by omega) (by omega) dX0_worked_24 ?_
    refine lv_istore (lv' := [(4, .int (g (h + 1))), (3, .int (g h)), (0, .ref (B + k)), (1, .int (nI n)), (2, .int (nI h))]) hx hb dX0_worked_25 hl (by decide) rfl (fun ls hl => ?_)
    refine lv_iload_n hx hb dX0_worked_27 rfl (lv_at hl 3 rfl) ?_
    rcases (show n = 10 ∨ n = 11 ∨ n = 12 ∨ n = 13 ∨ n = 14 ∨ n = 15 ∨ n = 16 by omega) with rfl | rfl | rfl | rfl | rfl | rfl | rfl
    · refine lv_tableIn (off := 44) (tgt := 72) hx hb dX0_worked_28 (by decide) (by decide) rfl (by decide) ?_
      refine lv_iload_n hx hb dX0_worked_72 rfl (lv_at hl 1 rfl) ?_
      refine lv_iload hx hb dX0_worked_73 (lv_at hl 0 rfl) ?_
      refine lv_iadd hx hb dX0_worked_75 ?_
      exact kl_iret hx hb hr hlocks hP ⟨rfl, rfl⟩ dX0_worked_76
    · refine lv_tableIn (off := 49) (tgt := 77) hx hb dX0_worked_28 (by decide) (by decide) rfl (by decide) ?_
      refine lv_iload_n hx hb dX0_worked_77 rfl (lv_at hl 1 rfl) ?_
      refine lv_iload hx hb dX0_worked_78 (lv_at hl 0 rfl) ?_
      refine lv_isub hx hb dX0_worked_80 ?_
      exact kl_iret hx hb hr hlocks hP ⟨rfl, rfl⟩ dX0_worked_81
    · refine lv_tableIn (off := 54) (tgt := 82) hx hb dX0_worked_28 (by decide) (by decide) rfl (by decide) ?_
      refine lv_iload_n hx hb dX0_worked_82 rfl (lv_at hl 1 rfl) ?_
      refine lv_iload hx hb dX0_worked_83 (lv_at hl 0 rfl) ?_
      refine lv_imul hx hb dX0_worked_85 ?_
      exact kl_iret hx hb hr hlocks hP ⟨rfl, rfl⟩ dX0_worked_86
    · refine lv_tableIn (off := 59) (tgt := 87) hx hb dX0_worked_28 (by decide) (by decide) rfl (by decide) ?_
      refine lv_iload_n hx hb dX0_worked_87 rfl (lv_at hl 1 rfl) ?_
      refine lv_iload hx hb dX0_worked_88 (lv_at hl 0 rfl) ?_
      refine lv_icmp_ge (tgt := 97) hx hb dX0_worked_90 (by decide) (fun c90 => ?_) (fun c90 => ?_)
      · refine lv_iconst (v := nI 0) hx hb dX0_worked_97 (by decide) ?_
        exact kl_iret hx hb hr hlocks hP ⟨rfl, by show nI 0 = (if g h < g (h + 1) then nI 1 else nI 0); rw [if_neg ((fun z => absurd c90 (Int32.not_le.mpr z)))]⟩ dX0_worked_98
      · refine lv_iconst (v := nI 1) hx hb dX0_worked_93 (by decide) ?_
        refine lv_goto (tgt := 98) hx hb dX0_worked_94 (by decide) ?_
        exact kl_iret hx hb hr hlocks hP ⟨rfl, by show nI 1 = (if g h < g (h + 1) then nI 1 else nI 0); rw [if_pos (Int32.not_le.mp c90)]⟩ dX0_worked_98
    · refine lv_tableIn (off := 71) (tgt := 99) hx hb dX0_worked_28 (by decide) (by decide) rfl (by decide) ?_
      refine lv_iload_n hx hb dX0_worked_99 rfl (lv_at hl 1 rfl) ?_
      refine lv_iload hx hb dX0_worked_100 (lv_at hl 0 rfl) ?_
      refine lv_icmp_ne (tgt := 109) hx hb dX0_worked_102 (by decide) (fun c102 => ?_) (fun c102 => ?_)
      · refine lv_iconst (v := nI 0) hx hb dX0_worked_109 (by decide) ?_
        exact kl_iret hx hb hr hlocks hP ⟨rfl, by show nI 0 = (if g h = g (h + 1) then nI 1 else nI 0); rw [if_neg (c102)]⟩ dX0_worked_110
      · refine lv_iconst (v := nI 1) hx hb dX0_worked_105 (by decide) ?_
        refine lv_goto (tgt := 110) hx hb dX0_worked_106 (by decide) ?_
        exact kl_iret hx hb hr hlocks hP ⟨rfl, by show nI 1 = (if g h = g (h + 1) then nI 1 else nI 0); rw [if_pos (c102)]⟩ dX0_worked_110
    · refine lv_tableIn (off := 83) (tgt := 111) hx hb dX0_worked_28 (by decide) (by decide) rfl (by decide) ?_
      refine lv_iload_n hx hb dX0_worked_111 rfl (lv_at hl 1 rfl) ?_
      refine lv_if_eq (tgt := 124) hx hb dX0_worked_112 (by decide) (fun c112 => ?_) (fun c112 => ?_)
      · refine lv_iconst (v := nI 0) hx hb dX0_worked_124 (by decide) ?_
        exact kl_iret hx hb hr hlocks hP ⟨rfl, by show nI 0 = (if g h ≠ 0 ∧ g (h + 1) ≠ 0 then nI 1 else nI 0); rw [if_neg ((fun z => z.1 c112))]⟩ dX0_worked_125
      · refine lv_iload hx hb dX0_worked_115 (lv_at hl 0 rfl) ?_
        refine lv_if_eq (tgt := 124) hx hb dX0_worked_117 (by decide) (fun c117 => ?_) (fun c117 => ?_)
        · refine lv_iconst (v := nI 0) hx hb dX0_worked_124 (by decide) ?_
          exact kl_iret hx hb hr hlocks hP ⟨rfl, by show nI 0 = (if g h ≠ 0 ∧ g (h + 1) ≠ 0 then nI 1 else nI 0); rw [if_neg ((fun z => z.2 c117))]⟩ dX0_worked_125
        · refine lv_iconst (v := nI 1) hx hb dX0_worked_120 (by decide) ?_
          refine lv_goto (tgt := 125) hx hb dX0_worked_121 (by decide) ?_
          exact kl_iret hx hb hr hlocks hP ⟨rfl, by show nI 1 = (if g h ≠ 0 ∧ g (h + 1) ≠ 0 then nI 1 else nI 0); rw [if_pos (⟨c112, c117⟩)]⟩ dX0_worked_125
    · refine lv_tableIn (off := 98) (tgt := 126) hx hb dX0_worked_28 (by decide) (by decide) rfl (by decide) ?_
      refine lv_iload_n hx hb dX0_worked_126 rfl (lv_at hl 1 rfl) ?_
      refine lv_if_ne (tgt := 135) hx hb dX0_worked_127 (by decide) (fun c127 => ?_) (fun c127 => ?_)
      · refine lv_iconst (v := nI 1) hx hb dX0_worked_135 (by decide) ?_
        refine lv_goto (tgt := 140) hx hb dX0_worked_136 (by decide) ?_
        exact kl_iret hx hb hr hlocks hP ⟨rfl, by show nI 1 = (if g h ≠ 0 ∨ g (h + 1) ≠ 0 then nI 1 else nI 0); rw [if_pos (Or.inl c127)]⟩ dX0_worked_140
      · refine lv_iload hx hb dX0_worked_130 (lv_at hl 0 rfl) ?_
        refine lv_if_eq (tgt := 139) hx hb dX0_worked_132 (by decide) (fun c132 => ?_) (fun c132 => ?_)
        · refine lv_iconst (v := nI 0) hx hb dX0_worked_139 (by decide) ?_
          exact kl_iret hx hb hr hlocks hP ⟨rfl, by show nI 0 = (if g h ≠ 0 ∨ g (h + 1) ≠ 0 then nI 1 else nI 0); rw [if_neg ((fun z => z.elim (fun z => z c127) (fun z => z c132)))]⟩ dX0_worked_140
        · refine lv_iconst (v := nI 1) hx hb dX0_worked_135 (by decide) ?_
          refine lv_goto (tgt := 140) hx hb dX0_worked_136 (by decide) ?_
          exact kl_iret hx hb hr hlocks hP ⟨rfl, by show nI 1 = (if g h ≠ 0 ∨ g (h + 1) ≠ 0 then nI 1 else nI 0); rw [if_pos (Or.inr c132)]⟩ dX0_worked_140
  · refine lv_iconst (v := nI 0) hx hb dX0_worked_13 (by decide) ?_
    refine lv_goto (tgt := 25) hx hb dX0_worked_14 (by decide) ?_
    refine lv_istore (lv' := [(4, .int (nI 0)), (3, .int (g h)), (0, .ref (B + k)), (1, .int (nI n)), (2, .int (nI h))]) hx hb dX0_worked_25 hl (by decide) rfl (fun ls hl => ?_)
    refine lv_iload_n hx hb dX0_worked_27 rfl (lv_at hl 3 rfl) ?_
    subst c10
    refine lv_tableOut (tgt := 141) hx hb dX0_worked_28 (by decide) (by decide) ?_
    refine lv_iload_n hx hb dX0_worked_141 rfl (lv_at hl 1 rfl) ?_
    refine lv_if_ne (tgt := 149) hx hb dX0_worked_142 (by decide) (fun c142 => ?_) (fun c142 => ?_)
    · refine lv_iconst (v := nI 0) hx hb dX0_worked_149 (by decide) ?_
      exact kl_iret hx hb hr hlocks hP ⟨rfl, by show nI 0 = (if g h = 0 then nI 1 else nI 0); rw [if_neg (c142)]⟩ dX0_worked_150
    · refine lv_iconst (v := nI 1) hx hb dX0_worked_145 (by decide) ?_
      refine lv_goto (tgt := 150) hx hb dX0_worked_146 (by decide) ?_
      exact kl_iret hx hb hr hlocks hP ⟨rfl, by show nI 1 = (if g h = 0 then nI 1 else nI 0); rw [if_pos (c142)]⟩ dX0_worked_150
