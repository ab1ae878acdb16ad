abbrev rm_L_table : Room := { frames := 8, cells := 2, slots := 12, locals := 131 }
set_option maxHeartbeats 4000000 in
set_option maxRecDepth 100000 in
theorem c_L_table (l : Launch) (hst : l.stackTraces = false) (G : kl_G) (B : Nat) (w : kl_M) {nT nW nM : Nat} {rs : Int32} {nL nS nC : Nat} {cn : Nat → Nat} (c : Int32) {ol : Nat → Int64} (k0 : w 0 = some (.inr (4, [.ref (B + 1), .int (nI nT), .ref (B + 2), .int (nI nL), .ref (B + 3), .int (nI nS), .ref (B + 4), .int (nI nC), .ref (B + 5), .int (nI nW), .ref (B + 6), .ref (B + 9), .ref (B + 12), .int (nI nM), .ref (B + 13), .int rs]))) (k1 : w 1 = some (kl_aI G 4 ((fun t => nI (cn t))))) (k47 : w 47 = some (kl_aL G 1 ol)) (hn : nT ≤ 4) : vx_Met l yL_table wsL_table rm_L_table (kl_Px G B w [.ref (B + 0), .int c, .ref (B + 47)]) (kl_Qi G B (fun r w1 => (r = nI 0 ∧ ∃ (v : Int32) (w2 : kl_M) (u : Int64), ((fun r w1 => nT < 4 ∧ r = nI nT ∧ (∃ k, c = nI k ∧ 2 ≤ k ∧ k ≤ 4 ∧ w1 1 = some (kl_aI G 4 (fun t => nI (kl_nup cn nT k t)))) ∧ w1 0 = some (.inr (4, [.ref (B + 1), .int (nI (nT + 1)), .ref (B + 2), .int (nI nL), .ref (B + 3), .int (nI nS), .ref (B + 4), .int (nI nC), .ref (B + 5), .int (nI nW), .ref (B + 6), .ref (B + 9), .ref (B + 12), .int (nI nM), .ref (B + 13), .int rs])) ∧ ∀ j : Nat, j ≠ 0 → j ≠ 1 → w1 j = w j) : Int32 → kl_M → Prop) v w2 ∧ u = v.toInt64 ∧ w1 47 = some (kl_aL G 1 (vp_updL ol 0 u)) ∧ ∀ j : Nat, j ≠ 47 → w1 j = w2 j) ∨ ∃ E : String, ((fun E w1 => (E = "java/lang/IllegalArgumentException" ∧ w1 = w ∧ ¬ mt_cok c) ∨ (E = "java/util/NoSuchElementException" ∧ w1 = w ∧ mt_cok c ∧ ¬ nT < 4)) : String → kl_M → Prop) E w1 ∧ ((E = "java/lang/IllegalArgumentException" ∧ r = nI 1) ∨ (E = "java/util/NoSuchElementException" ∧ r = nI 2)))) (kl_X G B (fun E w1 => False)) 2 12 (kl_fr B) := by
  refine vx_ofWH (cc := cL_table) (maxL := 4) (ret := (some .int)) (hh := [(0, 9, 12, 13), (0, 9, 15, 15)]) (by decide) rfl ?_
  intro pg e s m args below meth cd s₁ Bd hml hv
  obtain ⟨rfl, hP0, hK, hZ⟩ := hv
  have hx := Bd.exec
  have hb := Bd.bytes
  have hr := Bd.returns
  have hts := atoms_spec (ws := wsL_table) Bd.pre
  have hown : s.vm.findClass RL = some m.cls := findClass_of_methodNamed Bd.named
  have hlocks := Bd.notSynchronized
  have htab := vx_table (x := yL_table) Bd (hts (.codeWith yL_table cL_table 4 (some .int) [(0, 9, 12, 13), (0, 9, 15, 15)]) List.mem_cons_self)
  have hP := kl_S.rf hP0
  have hl := lv_entry ([.ref (B + 0), .int c, .ref (B + 47)]) (n := 4) (Nat.le_of_ble_eq_true rfl)
  rw [lg_entry_eq]
  generalize (lg_sl ([.ref (B + 0), .int c, .ref (B + 47)]) ++ List.replicate (4 - (lg_sl ([.ref (B + 0), .int c, .ref (B + 47)])).length) Slot.unset).toArray = ls at hl ⊢
  have hl : lv_has ls 4 [(0, .ref (B + 0)), (1, .int c), (2, .ref (B + 47))] := hl
  refine lv_aload_n hx hb dL_table_0 rfl (lv_at hl 2 rfl) ?_
  refine lv_iconst (v := nI 0) hx hb dL_table_1 (by decide) ?_
  refine lv_aload_n hx hb dL_table_2 rfl (lv_at hl 0 rfl) ?_
  refine lv_iload_n hx hb dL_table_3 rfl (lv_at hl 1 rfl) ?_
  refine klx_cVi (C := RX4) (i := 0) (As := [.int c]) (rest := [.int (nI 0), .ref (B + 47)]) ⟨hx, hb, hml, hown, hts⟩ (c_X4_table l hst G B _ c k0 k1 hn) (cwV 1 hts gL_table_X4_table rfl rfl rfl (by decide +kernel) ⟨Nat.le_of_ble_eq_true rfl, Nat.le_of_ble_eq_true rfl⟩) hK hZ hP k0 rfl rfl hl.1 rfl (Nat.le_of_ble_eq_true rfl) dL_table_4 ⟨Nat.le_of_ble_eq_true rfl, Nat.le_of_ble_eq_true rfl⟩ (fun E ce q9 w9 H locs hpx hP h9 hv9 hc9 => ?_) (fun r6  w4 H locs q5 hP => ?_)
  · have hE : E = "java/lang/IllegalArgumentException" ∨ E = "java/util/NoSuchElementException" := by rcases hpx with h | h <;> first | exact Or.inl h.1 | exact Or.inr (h.1)
    rcases hE with rfl | rfl
    · refine vx_catch (name := "java/lang/IllegalArgumentException") hown [] ⟨0, 9, 12, 13⟩ [⟨0, 9, 15, 15⟩] (htab.trans rfl) (fun _ h => absurd h List.not_mem_nil) (by decide) (by decide) (hts (.classLink RL 13 "java/lang/IllegalArgumentException") (by decide +kernel)) (va_Nw.use rfl (hK.2.1 ("java/lang/IllegalArgumentException", "java/lang/IllegalArgumentException") (by decide))) h9 hv9 hc9 ?_
      refine lv_astore_n (lv' := [(3, .ref q9), (0, .ref (B + 0)), (1, .int c), (2, .ref (B + 47))]) hx hb dL_table_12 rfl hl (by decide) rfl (fun ls hl => ?_)
      refine lv_iconst (v := nI 1) hx hb dL_table_13 (by decide) ?_
      refine W.widen (k := 2) (n := 12) (by omega) (by omega) ?_
      refine vx_ret ?_
      exact kl_iret hx hb hr hlocks hP (Or.inr ⟨_, hpx, Or.inl ⟨rfl, rfl⟩⟩) dL_table_14
    · refine vx_catch (name := "java/util/NoSuchElementException") hown [⟨0, 9, 12, 13⟩] ⟨0, 9, 15, 15⟩ [] (htab.trans rfl) (List.forall_mem_cons.mpr ⟨Or.inr ⟨by decide, _, hts (.classLink RL 13 "java/lang/IllegalArgumentException") (by decide +kernel), hK.2.2.1 ("java/util/NoSuchElementException", "java/lang/IllegalArgumentException") (by decide)⟩, (fun _ h => absurd h List.not_mem_nil)⟩) (by decide) (by decide) (hts (.classLink RL 15 "java/util/NoSuchElementException") (by decide +kernel)) (va_Nw.use rfl (hK.2.1 ("java/util/NoSuchElementException", "java/util/NoSuchElementException") (by decide))) h9 hv9 hc9 ?_
      refine lv_astore_n (lv' := [(3, .ref q9), (0, .ref (B + 0)), (1, .int c), (2, .ref (B + 47))]) hx hb dL_table_15 rfl hl (by decide) rfl (fun ls hl => ?_)
      refine lv_iconst (v := nI 2) hx hb dL_table_16 (by decide) ?_
      refine W.widen (k := 2) (n := 12) (by omega) (by omega) ?_
      refine vx_ret ?_
      exact kl_iret hx hb hr hlocks hP (Or.inr ⟨_, hpx, Or.inr (⟨rfl, rfl⟩)⟩) dL_table_17
  · have f7 : w4 47 = some (kl_aL G 1 ol) := by obtain ⟨-, -, -, -, hfr⟩ := q5; exact (hfr 47 (by decide) (by decide)).trans k47
    refine lv_i2l hx hb dL_table_7 rfl ?_
    refine kl_last hx hb hK hP f7 (by omega) (by omega) dL_table_8 (fun w8 H locs f9 fr10 hzw8 hP => ?_)
    refine lv_goto (tgt := 18) hx hb dL_table_9 (by decide) ?_
    refine lv_iconst (v := nI 0) hx hb dL_table_18 (by decide) ?_
    refine W.widen (k := 2) (n := 12) (by omega) (by omega) ?_
    refine vx_ret ?_
    exact kl_iret hx hb hr hlocks hP (Or.inl ⟨rfl, _, _, _, q5, rfl, f9, fr10⟩) dL_table_19

abbrev rm_L_link : Room := { frames := 8, cells := 5, slots := 28, locals := 137 }
set_option maxHeartbeats 4000000 in
set_option maxRecDepth 100000 in
theorem c_L_link (l : Launch) (hst : l.stackTraces = false) (G : kl_G) (B : Nat) (w : kl_M) {nT nW nM : Nat} {rs : Int32} {nL nS nC : Nat} {cn : Nat → Nat} {T C : Nat → Int32} {lf : Nat → Option Nat} {ol : Nat → Int64} (ch cc pa wy : Int32) (k0 : w 0 = some (.inr (4, [.ref (B + 1), .int (nI nT), .ref (B + 2), .int (nI nL), .ref (B + 3), .int (nI nS), .ref (B + 4), .int (nI nC), .ref (B + 5), .int (nI nW), .ref (B + 6), .ref (B + 9), .ref (B + 12), .int (nI nM), .ref (B + 13), .int rs]))) (k1 : w 1 = some (kl_aI G 4 ((fun t => nI (cn t))))) (k2 : w 2 = some (kl_aR G 3 6 lf)) (k6 : w 6 = some (.inr (2, [.ref (B + 7), .ref (B + 8)]))) (k7 : w 7 = some (kl_aI G 24 T)) (k8 : w 8 = some (kl_aI G 96 C)) (k47 : w 47 = some (kl_aL G 1 ol)) (hn : nT ≤ 4) (hnL : nL ≤ 6) (hcn4 : ∀ j, j < nT → cn j ≤ 4) : vx_Met l yL_link wsL_link rm_L_link (kl_Px G B w [.ref (B + 0), .int ch, .int cc, .int pa, .int wy, .ref (B + 47)]) (kl_Qi G B (fun r w1 => (r = nI 0 ∧ ∃ (v : Int32) (w2 : kl_M) (u : Int64), ((fun r w1 => mt_lkok ch cc pa wy nT cn ∧ nL < 6 ∧ r = nI nL ∧ ∃ co q, cc = nI co ∧ 0 < co ∧ co < 4 ∧ ¬ mt_lbrk T C ch co pa ∧ 48 ≤ q ∧ (∀ (j : Nat) (e : va_E), w j = some e → j < q) ∧ w1 q = some (.inr (1, [.int ch, .int (nI co), .int pa, .int wy])) ∧ w1 2 = some (kl_aR G 3 6 (va_up lf nL (some (B + q)))) ∧ w1 0 = some (.inr (4, [.ref (B + 1), .int (nI nT), .ref (B + 2), .int (nI (nL + 1)), .ref (B + 3), .int (nI nS), .ref (B + 4), .int (nI nC), .ref (B + 5), .int (nI nW), .ref (B + 6), .ref (B + 9), .ref (B + 12), .int (nI nM), .ref (B + 13), .int rs])) ∧ ∀ (j : Nat) (e : va_E), w j = some e → j ≠ 0 → j ≠ 2 → w1 j = some e) : Int32 → kl_M → Prop) v w2 ∧ u = v.toInt64 ∧ w1 47 = some (kl_aL G 1 (vp_updL ol 0 u)) ∧ ∀ j : Nat, j ≠ 47 → w1 j = w2 j) ∨ ∃ E : String, ((fun E w1 => (E = "java/lang/IllegalArgumentException" ∧ w1 = w ∧ ¬ mt_lkok ch cc pa wy nT cn) ∨ (E = "java/util/NoSuchElementException" ∧ w1 = w ∧ mt_lkok ch cc pa wy nT cn ∧ ¬ nL < 6) ∨ (E = "java/lang/IllegalStateException" ∧ mt_lkok ch cc pa wy nT cn ∧ nL < 6 ∧ ∃ co, cc = nI co ∧ co < 4 ∧ mt_lbrk T C ch co pa ∧ w1 0 = some (.inr (4, [.ref (B + 1), .int (nI nT), .ref (B + 2), .int (nI nL), .ref (B + 3), .int (nI nS), .ref (B + 4), .int (nI nC), .ref (B + 5), .int (nI nW), .ref (B + 6), .ref (B + 9), .ref (B + 12), .int (nI nM), .ref (B + 13), .int ((nI (400 + nL)))])) ∧ w1 2 = some (kl_aR G 3 6 lf) ∧ ∀ (j : Nat) (e : va_E), w j = some e → j ≠ 0 → j ≠ 2 → w1 j = some e)) : String → kl_M → Prop) E w1 ∧ ((E = "java/lang/IllegalArgumentException" ∧ r = nI 1) ∨ (E = "java/util/NoSuchElementException" ∧ r = nI 2) ∨ (E = "java/lang/IllegalStateException" ∧ r = nI 3)))) (kl_X G B (fun E w1 => False)) 5 28 (kl_fr B) := by
  refine vx_ofWH (cc := cL_link) (maxL := 7) (ret := (some .int)) (hh := [(0, 14, 17, 13), (0, 14, 21, 15), (0, 14, 25, 21)]) (by decide) rfl ?_
  intro pg e s m args below meth cd s₁ Bd hml hv
  obtain ⟨rfl, hP0, hK, hZ⟩ := hv
  have hx := Bd.exec
  have hb := Bd.bytes
  have hr := Bd.returns
  have hts := atoms_spec (ws := wsL_link) Bd.pre
  have hown : s.vm.findClass RL = some m.cls := findClass_of_methodNamed Bd.named
  have hlocks := Bd.notSynchronized
  have htab := vx_table (x := yL_link) Bd (hts (.codeWith yL_link cL_link 7 (some .int) [(0, 14, 17, 13), (0, 14, 21, 15), (0, 14, 25, 21)]) List.mem_cons_self)
  have hP := kl_S.rf hP0
  have hl := lv_entry ([.ref (B + 0), .int ch, .int cc, .int pa, .int wy, .ref (B + 47)]) (n := 7) (Nat.le_of_ble_eq_true rfl)
  rw [lg_entry_eq]
  generalize (lg_sl ([.ref (B + 0), .int ch, .int cc, .int pa, .int wy, .ref (B + 47)]) ++ List.replicate (7 - (lg_sl ([.ref (B + 0), .int ch, .int cc, .int pa, .int wy, .ref (B + 47)])).length) Slot.unset).toArray = ls at hl ⊢
  have hl : lv_has ls 7 [(0, .ref (B + 0)), (1, .int ch), (2, .int cc), (3, .int pa), (4, .int wy), (5, .ref (B + 47))] := hl
  refine lv_aload hx hb dL_link_0 (lv_at hl 5 rfl) ?_
  refine lv_iconst (v := nI 0) hx hb dL_link_2 (by decide) ?_
  refine lv_aload_n hx hb dL_link_3 rfl (lv_at hl 0 rfl) ?_
  refine lv_iload_n hx hb dL_link_4 rfl (lv_at hl 1 rfl) ?_
  refine lv_iload_n hx hb dL_link_5 rfl (lv_at hl 2 rfl) ?_
  refine lv_iload_n hx hb dL_link_6 rfl (lv_at hl 3 rfl) ?_
  refine lv_iload hx hb dL_link_7 (lv_at hl 4 rfl) ?_
  refine klx_cVi (C := RX4) (i := 0) (As := [.int ch, .int cc, .int pa, .int wy]) (rest := [.int (nI 0), .ref (B + 47)]) ⟨hx, hb, hml, hown, hts⟩ (c_X4_link l hst G B _ ch cc pa wy k0 k1 k2 k6 k7 k8 k47 hn hnL hcn4) (cwV 4 hts gL_link_X4_link rfl rfl rfl (by decide +kernel) ⟨Nat.le_of_ble_eq_true rfl, Nat.le_of_ble_eq_true rfl⟩) hK hZ hP k0 rfl rfl hl.1 rfl (Nat.le_of_ble_eq_true rfl) dL_link_9 ⟨Nat.le_of_ble_eq_true rfl, Nat.le_of_ble_eq_true rfl⟩ (fun E ce q9 w9 H locs hpx hP h9 hv9 hc9 => ?_) (fun r6  w4 H locs q5 hP => ?_)
  · have hE : E = "java/lang/IllegalArgumentException" ∨ E = "java/util/NoSuchElementException" ∨ E = "java/lang/IllegalStateException" := by rcases hpx with h | h | h <;> first | exact Or.inl h.1 | exact Or.inr (Or.inl h.1) | exact Or.inr (Or.inr (h.1))
    rcases hE with rfl | rfl | rfl
    · refine vx_catch (name := "java/lang/IllegalArgumentException") hown [] ⟨0, 14, 17, 13⟩ [⟨0, 14, 21, 15⟩, ⟨0, 14, 25, 21⟩] (htab.trans rfl) (fun _ h => absurd h List.not_mem_nil) (by decide) (by decide) (hts (.classLink RL 13 "java/lang/IllegalArgumentException") (by decide +kernel)) (va_Nw.use rfl (hK.2.1 ("java/lang/IllegalArgumentException", "java/lang/IllegalArgumentException") (by decide))) h9 hv9 hc9 ?_
      refine lv_astore (lv' := [(6, .ref q9), (0, .ref (B + 0)), (1, .int ch), (2, .int cc), (3, .int pa), (4, .int wy), (5, .ref (B + 47))]) hx hb dL_link_17 hl (by decide) rfl (fun ls hl => ?_)
      refine lv_iconst (v := nI 1) hx hb dL_link_19 (by decide) ?_
      refine W.widen (k := 5) (n := 28) (by omega) (by omega) ?_
      refine vx_ret ?_
      exact kl_iret hx hb hr hlocks hP (Or.inr ⟨_, hpx, Or.inl ⟨rfl, rfl⟩⟩) dL_link_20
    · refine vx_catch (name := "java/util/NoSuchElementException") hown [⟨0, 14, 17, 13⟩] ⟨0, 14, 21, 15⟩ [⟨0, 14, 25, 21⟩] (htab.trans rfl) (List.forall_mem_cons.mpr ⟨Or.inr ⟨by decide, _, hts (.classLink RL 13 "java/lang/IllegalArgumentException") (by decide +kernel), hK.2.2.1 ("java/util/NoSuchElementException", "java/lang/IllegalArgumentException") (by decide)⟩, (fun _ h => absurd h List.not_mem_nil)⟩) (by decide) (by decide) (hts (.classLink RL 15 "java/util/NoSuchElementException") (by decide +kernel)) (va_Nw.use rfl (hK.2.1 ("java/util/NoSuchElementException", "java/util/NoSuchElementException") (by decide))) h9 hv9 hc9 ?_
      refine lv_astore (lv' := [(6, .ref q9), (0, .ref (B + 0)), (1, .int ch), (2, .int cc), (3, .int pa), (4, .int wy), (5, .ref (B + 47))]) hx hb dL_link_21 hl (by decide) rfl (fun ls hl => ?_)
      refine lv_iconst (v := nI 2) hx hb dL_link_23 (by decide) ?_
      refine W.widen (k := 5) (n := 28) (by omega) (by omega) ?_
      refine vx_ret ?_
      exact kl_iret hx hb hr hlocks hP (Or.inr ⟨_, hpx, Or.inr (Or.inl ⟨rfl, rfl⟩)⟩) dL_link_24
    · refine vx_catch (name := "java/lang/IllegalStateException") hown [⟨0, 14, 17, 13⟩, ⟨0, 14, 21, 15⟩] ⟨0, 14, 25, 21⟩ [] (htab.trans rfl) (List.forall_mem_cons.mpr ⟨Or.inr ⟨by decide, _, hts (.classLink RL 13 "java/lang/IllegalArgumentException") (by decide +kernel), hK.2.2.1 ("java/lang/IllegalStateException", "java/lang/IllegalArgumentException") (by decide)⟩, (List.forall_mem_cons.mpr ⟨Or.inr ⟨by decide, _, hts (.classLink RL 15 "java/util/NoSuchElementException") (by decide +kernel), hK.2.2.1 ("java/lang/IllegalStateException", "java/util/NoSuchElementException") (by decide)⟩, (fun _ h => absurd h List.not_mem_nil)⟩)⟩) (by decide) (by decide) (hts (.classLink RL 21 "java/lang/IllegalStateException") (by decide +kernel)) (va_Nw.use rfl (hK.2.1 ("java/lang/IllegalStateException", "java/lang/IllegalStateException") (by decide))) h9 hv9 hc9 ?_
      refine lv_astore (lv' := [(6, .ref q9), (0, .ref (B + 0)), (1, .int ch), (2, .int cc), (3, .int pa), (4, .int wy), (5, .ref (B + 47))]) hx hb dL_link_25 hl (by decide) rfl (fun ls hl => ?_)
      refine lv_iconst (v := nI 3) hx hb dL_link_27 (by decide) ?_
      refine W.widen (k := 5) (n := 28) (by omega) (by omega) ?_
      refine vx_ret ?_
      exact kl_iret hx hb hr hlocks hP (Or.inr ⟨_, hpx, Or.inr (Or.inr (⟨rfl, rfl⟩))⟩) dL_link_28
  · have f7 : w4 47 = some (kl_aL G 1 ol) := by obtain ⟨-, -, -, co9, q9, -, -, -, -, -, -, -, -, -, hfr⟩ := q5; exact hfr 47 _ k47 (by decide) (by decide)
    refine lv_i2l hx hb dL_link_12 rfl ?_
    refine kl_last hx hb hK hP f7 (by omega) (by omega) dL_link_13 (fun w8 H locs f9 fr10 hzw8 hP => ?_)
    refine lv_goto (tgt := 29) hx hb dL_link_14 (by decide) ?_
    refine lv_iconst (v := nI 0) hx hb dL_link_29 (by decide) ?_
    refine W.widen (k := 5) (n := 28) (by omega) (by omega) ?_
    refine vx_ret ?_
    exact kl_iret hx hb hr hlocks hP (Or.inl ⟨rfl, _, _, _, q5, rfl, f9, fr10⟩) dL_link_30

abbrev rm_L_single : Room := { frames := 8, cells := 4, slots := 20, locals := 135 }
set_option maxHeartbeats 4000000 in
set_option maxRecDepth 100000 in
theorem c_L_single (l : Launch) (hst : l.stackTraces = false) (G : kl_G) (B : Nat) (w : kl_M) {nT nW nM : Nat} {rs : Int32} {nL nS nC : Nat} {cn : Nat → Nat} {T C : Nat → Int32} {sf : Nat → Option Nat} {ol : Nat → Int64} (tb cc : Int32) (k0 : w 0 = some (.inr (4, [.ref (B + 1), .int (nI nT), .ref (B + 2), .int (nI nL), .ref (B + 3), .int (nI nS), .ref (B + 4), .int (nI nC), .ref (B + 5), .int (nI nW), .ref (B + 6), .ref (B + 9), .ref (B + 12), .int (nI nM), .ref (B + 13), .int rs]))) (k1 : w 1 = some (kl_aI G 4 ((fun t => nI (cn t))))) (k3 : w 3 = some (kl_aR G 4 4 sf)) (k6 : w 6 = some (.inr (2, [.ref (B + 7), .ref (B + 8)]))) (k7 : w 7 = some (kl_aI G 24 T)) (k8 : w 8 = some (kl_aI G 96 C)) (k47 : w 47 = some (kl_aL G 1 ol)) (hn : nT ≤ 4) (hnS : nS ≤ 4) (hcn4 : ∀ j, j < nT → cn j ≤ 4) : vx_Met l yL_single wsL_single rm_L_single (kl_Px G B w [.ref (B + 0), .int tb, .int cc, .ref (B + 47)]) (kl_Qi G B (fun r w1 => (r = nI 0 ∧ ∃ (v : Int32) (w2 : kl_M) (u : Int64), ((fun r w1 => (mt_col tb cc nT cn ∧ cc ≠ 0) ∧ nS < 4 ∧ r = nI nS ∧ ∃ co q, cc = nI co ∧ 0 < co ∧ co < 4 ∧ ¬ mt_twin T C tb co ∧ 48 ≤ q ∧ (∀ (j : Nat) (e : va_E), w j = some e → j < q) ∧ w1 q = some (.inr (3, [.int tb, .int (nI co)])) ∧ w1 3 = some (kl_aR G 4 4 (va_up sf nS (some (B + q)))) ∧ w1 0 = some (.inr (4, [.ref (B + 1), .int (nI nT), .ref (B + 2), .int (nI nL), .ref (B + 3), .int (nI (nS + 1)), .ref (B + 4), .int (nI nC), .ref (B + 5), .int (nI nW), .ref (B + 6), .ref (B + 9), .ref (B + 12), .int (nI nM), .ref (B + 13), .int rs])) ∧ ∀ (j : Nat) (e : va_E), w j = some e → j ≠ 0 → j ≠ 3 → w1 j = some e) : Int32 → kl_M → Prop) v w2 ∧ u = v.toInt64 ∧ w1 47 = some (kl_aL G 1 (vp_updL ol 0 u)) ∧ ∀ j : Nat, j ≠ 47 → w1 j = w2 j) ∨ ∃ E : String, ((fun E w1 => (E = "java/lang/IllegalArgumentException" ∧ w1 = w ∧ ¬ (mt_col tb cc nT cn ∧ cc ≠ 0)) ∨ (E = "java/util/NoSuchElementException" ∧ w1 = w ∧ (mt_col tb cc nT cn ∧ cc ≠ 0) ∧ ¬ nS < 4) ∨ (E = "java/lang/IllegalStateException" ∧ (mt_col tb cc nT cn ∧ cc ≠ 0) ∧ nS < 4 ∧ ∃ co, cc = nI co ∧ co < 4 ∧ mt_twin T C tb co ∧ w1 0 = some (.inr (4, [.ref (B + 1), .int (nI nT), .ref (B + 2), .int (nI nL), .ref (B + 3), .int (nI nS), .ref (B + 4), .int (nI nC), .ref (B + 5), .int (nI nW), .ref (B + 6), .ref (B + 9), .ref (B + 12), .int (nI nM), .ref (B + 13), .int ((nI (300 + nS)))])) ∧ w1 3 = some (kl_aR G 4 4 sf) ∧ ∀ (j : Nat) (e : va_E), w j = some e → j ≠ 0 → j ≠ 3 → w1 j = some e)) : String → kl_M → Prop) E w1 ∧ ((E = "java/lang/IllegalArgumentException" ∧ r = nI 1) ∨ (E = "java/util/NoSuchElementException" ∧ r = nI 2) ∨ (E = "java/lang/IllegalStateException" ∧ r = nI 3)))) (kl_X G B (fun E w1 => False)) 4 20 (kl_fr B) := by
  refine vx_ofWH (cc := cL_single) (maxL := 5) (ret := (some .int)) (hh := [(0, 10, 13, 13), (0, 10, 17, 15), (0, 10, 21, 21)]) (by decide) rfl ?_
  intro pg e s m args below meth cd s₁ Bd hml hv
  obtain ⟨rfl, hP0, hK, hZ⟩ := hv
  have hx := Bd.exec
  have hb := Bd.bytes
  have hr := Bd.returns
  have hts := atoms_spec (ws := wsL_single) Bd.pre
  have hown : s.vm.findClass RL = some m.cls := findClass_of_methodNamed Bd.named
  have hlocks := Bd.notSynchronized
  have htab := vx_table (x := yL_single) Bd (hts (.codeWith yL_single cL_single 5 (some .int) [(0, 10, 13, 13), (0, 10, 17, 15), (0, 10, 21, 21)]) List.mem_cons_self)
  have hP := kl_S.rf hP0
  have hl := lv_entry ([.ref (B + 0), .int tb, .int cc, .ref (B + 47)]) (n := 5) (Nat.le_of_ble_eq_true rfl)
  rw [lg_entry_eq]
  generalize (lg_sl ([.ref (B + 0), .int tb, .int cc, .ref (B + 47)]) ++ List.replicate (5 - (lg_sl ([.ref (B + 0), .int tb, .int cc, .ref (B + 47)])).length) Slot.unset).toArray = ls at hl ⊢
  have hl : lv_has ls 5 [(0, .ref (B + 0)), (1, .int tb), (2, .int cc), (3, .ref (B + 47))] := hl
  refine lv_aload_n hx hb dL_single_0 rfl (lv_at hl 3 rfl) ?_
  refine lv_iconst (v := nI 0) hx hb dL_single_1 (by decide) ?_
  refine lv_aload_n hx hb dL_single_2 rfl (lv_at hl 0 rfl) ?_
  refine lv_iload_n hx hb dL_single_3 rfl (lv_at hl 1 rfl) ?_
  refine lv_iload_n hx hb dL_single_4 rfl (lv_at hl 2 rfl) ?_
  refine klx_cVi (C := RX4) (i := 0) (As := [.int tb, .int cc]) (rest := [.int (nI 0), .ref (B + 47)]) ⟨hx, hb, hml, hown, hts⟩ (c_X4_single l hst G B _ tb cc k0 k1 k3 k6 k7 k8 k47 hn hnS hcn4) (cwV 2 hts gL_single_X4_single rfl rfl rfl (by decide +kernel) ⟨Nat.le_of_ble_eq_true rfl, Nat.le_of_ble_eq_true rfl⟩) hK hZ hP k0 rfl rfl hl.1 rfl (Nat.le_of_ble_eq_true rfl) dL_single_5 ⟨Nat.le_of_ble_eq_true rfl, Nat.le_of_ble_eq_true rfl⟩ (fun E ce q9 w9 H locs hpx hP h9 hv9 hc9 => ?_) (fun r6  w4 H locs q5 hP => ?_)
  · have hE : E = "java/lang/IllegalArgumentException" ∨ E = "java/util/NoSuchElementException" ∨ E = "java/lang/IllegalStateException" := by rcases hpx with h | h | h <;> first | exact Or.inl h.1 | exact Or.inr (Or.inl h.1) | exact Or.inr (Or.inr (h.1))
    rcases hE with rfl | rfl | rfl
    · refine vx_catch (name := "java/lang/IllegalArgumentException") hown [] ⟨0, 10, 13, 13⟩ [⟨0, 10, 17, 15⟩, ⟨0, 10, 21, 21⟩] (htab.trans rfl) (fun _ h => absurd h List.not_mem_nil) (by decide) (by decide) (hts (.classLink RL 13 "java/lang/IllegalArgumentException") (by decide +kernel)) (va_Nw.use rfl (hK.2.1 ("java/lang/IllegalArgumentException", "java/lang/IllegalArgumentException") (by decide))) h9 hv9 hc9 ?_
      refine lv_astore (lv' := [(4, .ref q9), (0, .ref (B + 0)), (1, .int tb), (2, .int cc), (3, .ref (B + 47))]) hx hb dL_single_13 hl (by decide) rfl (fun ls hl => ?_)
      refine lv_iconst (v := nI 1) hx hb dL_single_15 (by decide) ?_
      refine W.widen (k := 4) (n := 20) (by omega) (by omega) ?_
      refine vx_ret ?_
      exact kl_iret hx hb hr hlocks hP (Or.inr ⟨_, hpx, Or.inl ⟨rfl, rfl⟩⟩) dL_single_16
    · refine vx_catch (name := "java/util/NoSuchElementException") hown [⟨0, 10, 13, 13⟩] ⟨0, 10, 17, 15⟩ [⟨0, 10, 21, 21⟩] (htab.trans rfl) (List.forall_mem_cons.mpr ⟨Or.inr ⟨by decide, _, hts (.classLink RL 13 "java/lang/IllegalArgumentException") (by decide +kernel), hK.2.2.1 ("java/util/NoSuchElementException", "java/lang/IllegalArgumentException") (by decide)⟩, (fun _ h => absurd h List.not_mem_nil)⟩) (by decide) (by decide) (hts (.classLink RL 15 "java/util/NoSuchElementException") (by decide +kernel)) (va_Nw.use rfl (hK.2.1 ("java/util/NoSuchElementException", "java/util/NoSuchElementException") (by decide))) h9 hv9 hc9 ?_
      refine lv_astore (lv' := [(4, .ref q9), (0, .ref (B + 0)), (1, .int tb), (2, .int cc), (3, .ref (B + 47))]) hx hb dL_single_17 hl (by decide) rfl (fun ls hl => ?_)
      refine lv_iconst (v := nI 2) hx hb dL_single_19 (by decide) ?_
      refine W.widen (k := 4) (n := 20) (by omega) (by omega) ?_
      refine vx_ret ?_
      exact kl_iret hx hb hr hlocks hP (Or.inr ⟨_, hpx, Or.inr (Or.inl ⟨rfl, rfl⟩)⟩) dL_single_20
    · refine vx_catch (name := "java/lang/IllegalStateException") hown [⟨0, 10, 13, 13⟩, ⟨0, 10, 17, 15⟩] ⟨0, 10, 21, 21⟩ [] (htab.trans rfl) (List.forall_mem_cons.mpr ⟨Or.inr ⟨by decide, _, hts (.classLink RL 13 "java/lang/IllegalArgumentException") (by decide +kernel), hK.2.2.1 ("java/lang/IllegalStateException", "java/lang/IllegalArgumentException") (by decide)⟩, (List.forall_mem_cons.mpr ⟨Or.inr ⟨by decide, _, hts (.classLink RL 15 "java/util/NoSuchElementException") (by decide +kernel), hK.2.2.1 ("java/lang/IllegalStateException", "java/util/NoSuchElementException") (by decide)⟩, (fun _ h => absurd h List.not_mem_nil)⟩)⟩) (by decide) (by decide) (hts (.classLink RL 21 "java/lang/IllegalStateException") (by decide +kernel)) (va_Nw.use rfl (hK.2.1 ("java/lang/IllegalStateException", "java/lang/IllegalStateException") (by decide))) h9 hv9 hc9 ?_
      refine lv_astore (lv' := [(4, .ref q9), (0, .ref (B + 0)), (1, .int tb), (2, .int cc), (3, .ref (B + 47))]) hx hb dL_single_21 hl (by decide) rfl (fun ls hl => ?_)
      refine lv_iconst (v := nI 3) hx hb dL_single_23 (by decide) ?_
      refine W.widen (k := 4) (n := 20) (by omega) (by omega) ?_
      refine vx_ret ?_
      exact kl_iret hx hb hr hlocks hP (Or.inr ⟨_, hpx, Or.inr (Or.inr (⟨rfl, rfl⟩))⟩) dL_single_24
  · have f7 : w4 47 = some (kl_aL G 1 ol) := by obtain ⟨-, -, -, co9, q9, -, -, -, -, -, -, -, -, -, hfr⟩ := q5; exact hfr 47 _ k47 (by decide) (by decide)
    refine lv_i2l hx hb dL_single_8 rfl ?_
    refine kl_last hx hb hK hP f7 (by omega) (by omega) dL_single_9 (fun w8 H locs f9 fr10 hzw8 hP => ?_)
    refine lv_goto (tgt := 25) hx hb dL_single_10 (by decide) ?_
    refine lv_iconst (v := nI 0) hx hb dL_single_25 (by decide) ?_
    refine W.widen (k := 4) (n := 20) (by omega) (by omega) ?_
    refine vx_ret ?_
    exact kl_iret hx hb hr hlocks hP (Or.inl ⟨rfl, _, _, _, q5, rfl, f9, fr10⟩) dL_single_26

abbrev rm_L_word : Room := { frames := 8, cells := 2, slots := 12, locals := 131 }
set_option maxHeartbeats 4000000 in
set_option maxRecDepth 100000 in
theorem c_L_word (l : Launch) (hst : l.stackTraces = false) (G : kl_G) (B : Nat) (w : kl_M) {nT nW nM : Nat} {rs : Int32} {nL nS nC : Nat} {wt : Nat → Nat} (x : Int32) {ol : Nat → Int64} (k0 : w 0 = some (.inr (4, [.ref (B + 1), .int (nI nT), .ref (B + 2), .int (nI nL), .ref (B + 3), .int (nI nS), .ref (B + 4), .int (nI nC), .ref (B + 5), .int (nI nW), .ref (B + 6), .ref (B + 9), .ref (B + 12), .int (nI nM), .ref (B + 13), .int rs]))) (k5 : w 5 = some (kl_aI G 10 ((fun i => nI (wt i))))) (k47 : w 47 = some (kl_aL G 1 ol)) (hn : nW ≤ 10) : vx_Met l yL_word wsL_word rm_L_word (kl_Px G B w [.ref (B + 0), .int x, .ref (B + 47)]) (kl_Qi G B (fun r w1 => (r = nI 0 ∧ ∃ (v : Int32) (w2 : kl_M) (u : Int64), ((fun r w1 => nW < 10 ∧ r = nI (nW + 1) ∧ (∃ k, x = nI k ∧ mt_wok k ∧ w1 5 = some (kl_aI G 10 (fun t => nI (kl_nup wt nW k t)))) ∧ w1 0 = some (.inr (4, [.ref (B + 1), .int (nI nT), .ref (B + 2), .int (nI nL), .ref (B + 3), .int (nI nS), .ref (B + 4), .int (nI nC), .ref (B + 5), .int (nI (nW + 1)), .ref (B + 6), .ref (B + 9), .ref (B + 12), .int (nI nM), .ref (B + 13), .int rs])) ∧ ∀ j : Nat, j ≠ 0 → j ≠ 5 → w1 j = w j) : Int32 → kl_M → Prop) v w2 ∧ u = v.toInt64 ∧ w1 47 = some (kl_aL G 1 (vp_updL ol 0 u)) ∧ ∀ j : Nat, j ≠ 47 → w1 j = w2 j) ∨ ∃ E : String, ((fun E w1 => (E = "java/lang/IllegalArgumentException" ∧ w1 = w ∧ ¬ mt_word x) ∨ (E = "java/util/NoSuchElementException" ∧ w1 = w ∧ mt_word x ∧ ¬ nW < 10)) : String → kl_M → Prop) E w1 ∧ ((E = "java/lang/IllegalArgumentException" ∧ r = nI 1) ∨ (E = "java/util/NoSuchElementException" ∧ r = nI 2)))) (kl_X G B (fun E w1 => False)) 2 12 (kl_fr B) := by
  refine vx_ofWH (cc := cL_word) (maxL := 4) (ret := (some .int)) (hh := [(0, 9, 12, 13), (0, 9, 15, 15)]) (by decide) rfl ?_
  intro pg e s m args below meth cd s₁ Bd hml hv
  obtain ⟨rfl, hP0, hK, hZ⟩ := hv
  have hx := Bd.exec
  have hb := Bd.bytes
  have hr := Bd.returns
  have hts := atoms_spec (ws := wsL_word) Bd.pre
  have hown : s.vm.findClass RL = some m.cls := findClass_of_methodNamed Bd.named
  have hlocks := Bd.notSynchronized
  have htab := vx_table (x := yL_word) Bd (hts (.codeWith yL_word cL_word 4 (some .int) [(0, 9, 12, 13), (0, 9, 15, 15)]) List.mem_cons_self)
  have hP := kl_S.rf hP0
  have hl := lv_entry ([.ref (B + 0), .int x, .ref (B + 47)]) (n := 4) (Nat.le_of_ble_eq_true rfl)
  rw [lg_entry_eq]
  generalize (lg_sl ([.ref (B + 0), .int x, .ref (B + 47)]) ++ List.replicate (4 - (lg_sl ([.ref (B + 0), .int x, .ref (B + 47)])).length) Slot.unset).toArray = ls at hl ⊢
  have hl : lv_has ls 4 [(0, .ref (B + 0)), (1, .int x), (2, .ref (B + 47))] := hl
  refine lv_aload_n hx hb dL_word_0 rfl (lv_at hl 2 rfl) ?_
  refine lv_iconst (v := nI 0) hx hb dL_word_1 (by decide) ?_
  refine lv_aload_n hx hb dL_word_2 rfl (lv_at hl 0 rfl) ?_
  refine lv_iload_n hx hb dL_word_3 rfl (lv_at hl 1 rfl) ?_
  refine klx_cVi (C := RX4) (i := 0) (As := [.int x]) (rest := [.int (nI 0), .ref (B + 47)]) ⟨hx, hb, hml, hown, hts⟩ (c_X4_word l hst G B _ x k0 k5 hn) (cwV 1 hts gL_word_X4_word rfl rfl rfl (by decide +kernel) ⟨Nat.le_of_ble_eq_true rfl, Nat.le_of_ble_eq_true rfl⟩) hK hZ hP k0 rfl rfl hl.1 rfl (Nat.le_of_ble_eq_true rfl) dL_word_4 ⟨Nat.le_of_ble_eq_true rfl, Nat.le_of_ble_eq_true rfl⟩ (fun E ce q9 w9 H locs hpx hP h9 hv9 hc9 => ?_) (fun r6  w4 H locs q5 hP => ?_)
  · have hE : E = "java/lang/IllegalArgumentException" ∨ E = "java/util/NoSuchElementException" := by rcases hpx with h | h <;> first | exact Or.inl h.1 | exact Or.inr (h.1)
    rcases hE with rfl | rfl
    · refine vx_catch (name := "java/lang/IllegalArgumentException") hown [] ⟨0, 9, 12, 13⟩ [⟨0, 9, 15, 15⟩] (htab.trans rfl) (fun _ h => absurd h List.not_mem_nil) (by decide) (by decide) (hts (.classLink RL 13 "java/lang/IllegalArgumentException") (by decide +kernel)) (va_Nw.use rfl (hK.2.1 ("java/lang/IllegalArgumentException", "java/lang/IllegalArgumentException") (by decide))) h9 hv9 hc9 ?_
      refine lv_astore_n (lv' := [(3, .ref q9), (0, .ref (B + 0)), (1, .int x), (2, .ref (B + 47))]) hx hb dL_word_12 rfl hl (by decide) rfl (fun ls hl => ?_)
      refine lv_iconst (v := nI 1) hx hb dL_word_13 (by decide) ?_
      refine W.widen (k := 2) (n := 12) (by omega) (by omega) ?_
      refine vx_ret ?_
      exact kl_iret hx hb hr hlocks hP (Or.inr ⟨_, hpx, Or.inl ⟨rfl, rfl⟩⟩) dL_word_14
    · refine vx_catch (name := "java/util/NoSuchElementException") hown [⟨0, 9, 12, 13⟩] ⟨0, 9, 15, 15⟩ [] (htab.trans rfl) (List.forall_mem_cons.mpr ⟨Or.inr ⟨by decide, _, hts (.classLink RL 13 "java/lang/IllegalArgumentException") (by decide +kernel), hK.2.2.1 ("java/util/NoSuchElementException", "java/lang/IllegalArgumentException") (by decide)⟩, (fun _ h => absurd h List.not_mem_nil)⟩) (by decide) (by decide) (hts (.classLink RL 15 "java/util/NoSuchElementException") (by decide +kernel)) (va_Nw.use rfl (hK.2.1 ("java/util/NoSuchElementException", "java/util/NoSuchElementException") (by decide))) h9 hv9 hc9 ?_
      refine lv_astore_n (lv' := [(3, .ref q9), (0, .ref (B + 0)), (1, .int x), (2, .ref (B + 47))]) hx hb dL_word_15 rfl hl (by decide) rfl (fun ls hl => ?_)
      refine lv_iconst (v := nI 2) hx hb dL_word_16 (by decide) ?_
      refine W.widen (k := 2) (n := 12) (by omega) (by omega) ?_
      refine vx_ret ?_
      exact kl_iret hx hb hr hlocks hP (Or.inr ⟨_, hpx, Or.inr (⟨rfl, rfl⟩)⟩) dL_word_17
  · have f7 : w4 47 = some (kl_aL G 1 ol) := by obtain ⟨-, -, -, -, hfr⟩ := q5; exact (hfr 47 (by decide) (by decide)).trans k47
    refine lv_i2l hx hb dL_word_7 rfl ?_
    refine kl_last hx hb hK hP f7 (by omega) (by omega) dL_word_8 (fun w8 H locs f9 fr10 hzw8 hP => ?_)
    refine lv_goto (tgt := 18) hx hb dL_word_9 (by decide) ?_
    refine lv_iconst (v := nI 0) hx hb dL_word_18 (by decide) ?_
    refine W.widen (k := 2) (n := 12) (by omega) (by omega) ?_
    refine vx_ret ?_
    exact kl_iret hx hb hr hlocks hP (Or.inl ⟨rfl, _, _, _, q5, rfl, f9, fr10⟩) dL_word_19

abbrev rm_L_check : Room := { frames := 8, cells := 7, slots := 47, locals := 135 }
set_option maxHeartbeats 4000000 in
set_option maxRecDepth 100000 in
theorem c_L_check (l : Launch) (hst : l.stackTraces = false) (G : kl_G) (B : Nat) (w : kl_M) {nT nW nM : Nat} {rs : Int32} {nL nS nC : Nat} {cn wt : Nat → Nat} {T C : Nat → Int32} {cf : Nat → Option Nat} {ol : Nat → Int64} (tb : Int32) (k0 : w 0 = some (.inr (4, [.ref (B + 1), .int (nI nT), .ref (B + 2), .int (nI nL), .ref (B + 3), .int (nI nS), .ref (B + 4), .int (nI nC), .ref (B + 5), .int (nI nW), .ref (B + 6), .ref (B + 9), .ref (B + 12), .int (nI nM), .ref (B + 13), .int rs]))) (k1 : w 1 = some (kl_aI G 4 ((fun t => nI (cn t))))) (k4 : w 4 = some (kl_aR G 5 4 cf)) (k5 : w 5 = some (kl_aI G 10 ((fun i => nI (wt i))))) (k6 : w 6 = some (.inr (2, [.ref (B + 7), .ref (B + 8)]))) (k7 : w 7 = some (kl_aI G 24 T)) (k8 : w 8 = some (kl_aI G 96 C)) (k47 : w 47 = some (kl_aL G 1 ol)) (hn : nT ≤ 4) (hnW : nW ≤ 10) (hnC : nC ≤ 4) (hcn4 : ∀ j, j < nT → cn j ≤ 4) (hwt : ∀ i, i < nW → mt_wok (wt i)) : vx_Met l yL_check wsL_check rm_L_check (kl_Px G B w [.ref (B + 0), .int tb, .ref (B + 47)]) (kl_Qi G B (fun r w1 => (r = nI 0 ∧ ∃ (v : Int32) (w2 : kl_M) (u : Int64), ((fun r w1 => ∃ tj, tj < nT ∧ tb = nI tj ∧ mt_right wt (cn tj) nW ∧ nC < 4 ∧ r = nI nC ∧ ¬ mt_cbrk T C tb wt nW ∧ ∃ q qw qp, 48 ≤ qw ∧ qw < q ∧ q < qp ∧ (∀ (j : Nat) (e : va_E), w j = some e → j < qw) ∧ w1 q = some (.inr (0, [.int tb, .ref (B + qw), .ref (B + qp)])) ∧ w1 qw = some (kl_aI G nW (fun i => nI (wt i))) ∧ (∃ g, w1 qp = some (kl_aI G nW g)) ∧ w1 4 = some (kl_aR G 5 4 (va_up cf nC (some (B + q)))) ∧ w1 0 = some (.inr (4, [.ref (B + 1), .int (nI nT), .ref (B + 2), .int (nI nL), .ref (B + 3), .int (nI nS), .ref (B + 4), .int (nI (nC + 1)), .ref (B + 5), .int (nI 0), .ref (B + 6), .ref (B + 9), .ref (B + 12), .int (nI nM), .ref (B + 13), .int rs])) ∧ ∀ (j : Nat) (e : va_E), w j = some e → j ≠ 0 → j ≠ 4 → w1 j = some e) : Int32 → kl_M → Prop) v w2 ∧ u = v.toInt64 ∧ w1 47 = some (kl_aL G 1 (vp_updL ol 0 u)) ∧ ∀ j : Nat, j ≠ 47 → w1 j = w2 j) ∨ ∃ E : String, ((fun E w1 => (E = "java/lang/IllegalArgumentException" ∧ w1 = w ∧ ¬ mt_tab tb nT) ∨ (E = "java/lang/IllegalArgumentException" ∧ ∃ tj, tj < nT ∧ tb = nI tj ∧ ¬ mt_right wt (cn tj) nW ∧ w1 0 = some (.inr (4, [.ref (B + 1), .int (nI nT), .ref (B + 2), .int (nI nL), .ref (B + 3), .int (nI nS), .ref (B + 4), .int (nI nC), .ref (B + 5), .int (nI 0), .ref (B + 6), .ref (B + 9), .ref (B + 12), .int (nI nM), .ref (B + 13), .int rs])) ∧ w1 4 = some (kl_aR G 5 4 cf) ∧ ∀ (j : Nat) (e : va_E), w j = some e → j ≠ 0 → j ≠ 4 → w1 j = some e) ∨ (E = "java/util/NoSuchElementException" ∧ ∃ tj, tj < nT ∧ tb = nI tj ∧ mt_right wt (cn tj) nW ∧ ¬ nC < 4 ∧ w1 0 = some (.inr (4, [.ref (B + 1), .int (nI nT), .ref (B + 2), .int (nI nL), .ref (B + 3), .int (nI nS), .ref (B + 4), .int (nI nC), .ref (B + 5), .int (nI 0), .ref (B + 6), .ref (B + 9), .ref (B + 12), .int (nI nM), .ref (B + 13), .int rs])) ∧ w1 4 = some (kl_aR G 5 4 cf) ∧ ∀ (j : Nat) (e : va_E), w j = some e → j ≠ 0 → j ≠ 4 → w1 j = some e) ∨ (E = "java/lang/IllegalStateException" ∧ ∃ tj, tj < nT ∧ tb = nI tj ∧ mt_right wt (cn tj) nW ∧ nC < 4 ∧ mt_cbrk T C tb wt nW ∧ w1 0 = some (.inr (4, [.ref (B + 1), .int (nI nT), .ref (B + 2), .int (nI nL), .ref (B + 3), .int (nI nS), .ref (B + 4), .int (nI nC), .ref (B + 5), .int (nI 0), .ref (B + 6), .ref (B + 9), .ref (B + 12), .int (nI nM), .ref (B + 13), .int ((nI (500 + nC)))])) ∧ w1 4 = some (kl_aR G 5 4 cf) ∧ ∀ (j : Nat) (e : va_E), w j = some e → j ≠ 0 → j ≠ 4 → w1 j = some e)) : String → kl_M → Prop) E w1 ∧ ((E = "java/lang/IllegalArgumentException" ∧ r = nI 1) ∨ (E = "java/util/NoSuchElementException" ∧ r = nI 2) ∨ (E = "java/lang/IllegalStateException" ∧ r = nI 3)))) (kl_X G B (fun E w1 => False)) 7 47 (kl_fr B) := by
  refine vx_ofWH (cc := cL_check) (maxL := 4) (ret := (some .int)) (hh := [(0, 9, 12, 13), (0, 9, 15, 15), (0, 9, 18, 21)]) (by decide) rfl ?_
  intro pg e s m args below meth cd s₁ Bd hml hv
  obtain ⟨rfl, hP0, hK, hZ⟩ := hv
  have hx := Bd.exec
  have hb := Bd.bytes
  have hr := Bd.returns
  have hts := atoms_spec (ws := wsL_check) Bd.pre
  have hown : s.vm.findClass RL = some m.cls := findClass_of_methodNamed Bd.named
  have hlocks := Bd.notSynchronized
  have htab := vx_table (x := yL_check) Bd (hts (.codeWith yL_check cL_check 4 (some .int) [(0, 9, 12, 13), (0, 9, 15, 15), (0, 9, 18, 21)]) List.mem_cons_self)
  have hP := kl_S.rf hP0
  have hl := lv_entry ([.ref (B + 0), .int tb, .ref (B + 47)]) (n := 4) (Nat.le_of_ble_eq_true rfl)
  rw [lg_entry_eq]
  generalize (lg_sl ([.ref (B + 0), .int tb, .ref (B + 47)]) ++ List.replicate (4 - (lg_sl ([.ref (B + 0), .int tb, .ref (B + 47)])).length) Slot.unset).toArray = ls at hl ⊢
  have hl : lv_has ls 4 [(0, .ref (B + 0)), (1, .int tb), (2, .ref (B + 47))] := hl
  refine lv_aload_n hx hb dL_check_0 rfl (lv_at hl 2 rfl) ?_
  refine lv_iconst (v := nI 0) hx hb dL_check_1 (by decide) ?_
  refine lv_aload_n hx hb dL_check_2 rfl (lv_at hl 0 rfl) ?_
  refine lv_iload_n hx hb dL_check_3 rfl (lv_at hl 1 rfl) ?_
  refine klx_cVi (C := RX4) (i := 0) (As := [.int tb]) (rest := [.int (nI 0), .ref (B + 47)]) ⟨hx, hb, hml, hown, hts⟩ (c_X4_check l hst G B _ tb k0 k1 k4 k5 k6 k7 k8 k47 hn hnW hnC hcn4 hwt) (cwV 1 hts gL_check_X4_check rfl rfl rfl (by decide +kernel) ⟨Nat.le_of_ble_eq_true rfl, Nat.le_of_ble_eq_true rfl⟩) hK hZ hP k0 rfl rfl hl.1 rfl (Nat.le_of_ble_eq_true rfl) dL_check_4 ⟨Nat.le_of_ble_eq_true rfl, Nat.le_of_ble_eq_true rfl⟩ (fun E ce q9 w9 H locs hpx hP h9 hv9 hc9 => ?_) (fun r6  w4 H locs q5 hP => ?_)
  · have hE : E = "java/lang/IllegalArgumentException" ∨ E = "java/util/NoSuchElementException" ∨ E = "java/lang/IllegalStateException" := by rcases hpx with h | h | h | h <;> first | exact Or.inl h.1 | exact Or.inr (Or.inl h.1) | exact Or.inr (Or.inr (h.1))
    rcases hE with rfl | rfl | rfl
    · refine vx_catch (name := "java/lang/IllegalArgumentException") hown [] ⟨0, 9, 12, 13⟩ [⟨0, 9, 15, 15⟩, ⟨0, 9, 18, 21⟩] (htab.trans rfl) (fun _ h => absurd h List.not_mem_nil) (by decide) (by decide) (hts (.classLink RL 13 "java/lang/IllegalArgumentException") (by decide +kernel)) (va_Nw.use rfl (hK.2.1 ("java/lang/IllegalArgumentException", "java/lang/IllegalArgumentException") (by decide))) h9 hv9 hc9 ?_
      refine lv_astore_n (lv' := [(3, .ref q9), (0, .ref (B + 0)), (1, .int tb), (2, .ref (B + 47))]) hx hb dL_check_12 rfl hl (by decide) rfl (fun ls hl => ?_)
      refine lv_iconst (v := nI 1) hx hb dL_check_13 (by decide) ?_
      refine W.widen (k := 7) (n := 47) (by omega) (by omega) ?_
      refine vx_ret ?_
      exact kl_iret hx hb hr hlocks hP (Or.inr ⟨_, hpx, Or.inl ⟨rfl, rfl⟩⟩) dL_check_14
    · refine vx_catch (name := "java/util/NoSuchElementException") hown [⟨0, 9, 12, 13⟩] ⟨0, 9, 15, 15⟩ [⟨0, 9, 18, 21⟩] (htab.trans rfl) (List.forall_mem_cons.mpr ⟨Or.inr ⟨by decide, _, hts (.classLink RL 13 "java/lang/IllegalArgumentException") (by decide +kernel), hK.2.2.1 ("java/util/NoSuchElementException", "java/lang/IllegalArgumentException") (by decide)⟩, (fun _ h => absurd h List.not_mem_nil)⟩) (by decide) (by decide) (hts (.classLink RL 15 "java/util/NoSuchElementException") (by decide +kernel)) (va_Nw.use rfl (hK.2.1 ("java/util/NoSuchElementException", "java/util/NoSuchElementException") (by decide))) h9 hv9 hc9 ?_
      refine lv_astore_n (lv' := [(3, .ref q9), (0, .ref (B + 0)), (1, .int tb), (2, .ref (B + 47))]) hx hb dL_check_15 rfl hl (by decide) rfl (fun ls hl => ?_)
      refine lv_iconst (v := nI 2) hx hb dL_check_16 (by decide) ?_
      refine W.widen (k := 7) (n := 47) (by omega) (by omega) ?_
      refine vx_ret ?_
      exact kl_iret hx hb hr hlocks hP (Or.inr ⟨_, hpx, Or.inr (Or.inl ⟨rfl, rfl⟩)⟩) dL_check_17
    · refine vx_catch (name := "java/lang/IllegalStateException") hown [⟨0, 9, 12, 13⟩, ⟨0, 9, 15, 15⟩] ⟨0, 9, 18, 21⟩ [] (htab.trans rfl) (List.forall_mem_cons.mpr ⟨Or.inr ⟨by decide, _, hts (.classLink RL 13 "java/lang/IllegalArgumentException") (by decide +kernel), hK.2.2.1 ("java/lang/IllegalStateException", "java/lang/IllegalArgumentException") (by decide)⟩, (List.forall_mem_cons.mpr ⟨Or.inr ⟨by decide, _, hts (.classLink RL 15 "java/util/NoSuchElementException") (by decide +kernel), hK.2.2.1 ("java/lang/IllegalStateException", "java/util/NoSuchElementException") (by decide)⟩, (fun _ h => absurd h List.not_mem_nil)⟩)⟩) (by decide) (by decide) (hts (.classLink RL 21 "java/lang/IllegalStateException") (by decide +kernel)) (va_Nw.use rfl (hK.2.1 ("java/lang/IllegalStateException", "java/lang/IllegalStateException") (by decide))) h9 hv9 hc9 ?_
      refine lv_astore_n (lv' := [(3, .ref q9), (0, .ref (B + 0)), (1, .int tb), (2, .ref (B + 47))]) hx hb dL_check_18 rfl hl (by decide) rfl (fun ls hl => ?_)
      refine lv_iconst (v := nI 3) hx hb dL_check_19 (by decide) ?_
      refine W.widen (k := 7) (n := 47) (by omega) (by omega) ?_
      refine vx_ret ?_
      exact kl_iret hx hb hr hlocks hP (Or.inr ⟨_, hpx, Or.inr (Or.inr (⟨rfl, rfl⟩))⟩) dL_check_20
  · have f7 : w4 47 = some (kl_aL G 1 ol) := by obtain ⟨tj9, -, -, -, -, -, -, q9, qw9, qp9, -, -, -, -, -, -, -, -, -, hfr⟩ := q5; exact hfr 47 _ k47 (by decide) (by decide)
    refine lv_i2l hx hb dL_check_7 rfl ?_
    refine kl_last hx hb hK hP f7 (by omega) (by omega) dL_check_8 (fun w8 H locs f9 fr10 hzw8 hP => ?_)
    refine lv_goto (tgt := 21) hx hb dL_check_9 (by decide) ?_
    refine lv_iconst (v := nI 0) hx hb dL_check_21 (by decide) ?_
    refine W.widen (k := 7) (n := 47) (by omega) (by omega) ?_
    refine vx_ret ?_
    exact kl_iret hx hb hr hlocks hP (Or.inl ⟨rfl, _, _, _, q5, rfl, f9, fr10⟩) dL_check_22

abbrev rm_L_insert : Room := { frames := 9, cells := 3, slots := 18, locals := 161 }
set_option maxHeartbeats 4000000 in
set_option maxRecDepth 100000 in
theorem c_L_insert (l : Launch) (hst : l.stackTraces = false) (G : kl_G) (B : Nat) (w : kl_M) {nT nW nM : Nat} {rs : Int32} {nL nS nC : Nat} {lf sf cf : Nat → Option Nat} {la : Nat → Nat} {lch : Nat → Int32} {lco : Nat → Nat} {lpa lwy : Nat → Int32} {sa : Nat → Nat} {stb : Nat → Int32} {sco ca cwa cpa : Nat → Nat} {ctb : Nat → Int32} {cln : Nat → Nat} {cwd : Nat → Nat → Nat} {ccol : Nat → Nat} {T C dT dC : Nat → Int32} (t a b c d : Int32) {ol : Nat → Int64} (k0 : w 0 = some (.inr (4, [.ref (B + 1), .int (nI nT), .ref (B + 2), .int (nI nL), .ref (B + 3), .int (nI nS), .ref (B + 4), .int (nI nC), .ref (B + 5), .int (nI nW), .ref (B + 6), .ref (B + 9), .ref (B + 12), .int (nI nM), .ref (B + 13), .int rs]))) (k2 : w 2 = some (kl_aR G 3 6 lf)) (k3 : w 3 = some (kl_aR G 4 4 sf)) (k4 : w 4 = some (kl_aR G 5 4 cf)) (k6 : w 6 = some (.inr (2, [.ref (B + 7), .ref (B + 8)]))) (k7 : w 7 = some (kl_aI G 24 T)) (k8 : w 8 = some (kl_aI G 96 C)) (k9 : w 9 = some (.inr (2, [.ref (B + 10), .ref (B + 11)]))) (k10 : w 10 = some (kl_aI G 24 dT)) (k11 : w 11 = some (kl_aI G 96 dC)) (k47 : w 47 = some (kl_aL G 1 ol)) (hnn : nT ≤ 4 ∧ nL ≤ 6 ∧ nS ≤ 4 ∧ nC ≤ 4 ∧ nW ≤ 10 ∧ nM ≤ 4) (hru : kl_RU G B w nL lf la lch lco lpa lwy nS sf sa stb sco nC cf ca cwa cpa ctb cln cwd ccol) : vx_Met l yL_insert wsL_insert rm_L_insert (kl_Px G B w [.ref (B + 0), .int t, .int a, .int b, .int c, .int d]) (kl_Qi G B (fun r w1 => (r = nI 0 ∧ ((fun w1 => (mt_tab t nT ∧ a ≠ 0) ∧ ∃ p, p < 24 ∧ T p = -1 ∧ mt_st (-1) (mt_why (upd T p t) (mt_ins C p a b c d) nT nS stb sco nL lch lco lpa nC ctb cwd cln) (nI 0) ∧ w1 0 = some (.inr (4, [.ref (B + 1), .int (nI nT), .ref (B + 2), .int (nI nL), .ref (B + 3), .int (nI nS), .ref (B + 4), .int (nI nC), .ref (B + 5), .int (nI nW), .ref (B + 6), .ref (B + 9), .ref (B + 12), .int (nI nM), .ref (B + 13), .int rs])) ∧ kl_RU G B w1 nL lf la lch lco lpa lwy nS sf sa stb sco nC cf ca cwa cpa ctb cln cwd ccol ∧ w1 7 = some (kl_aI G 24 (upd T p t)) ∧ w1 8 = some (kl_aI G 96 (mt_ins C p a b c d)) ∧ kl_dr G w1 ∧ ∀ j : Nat, j < 48 → j ≠ 0 → j ≠ 7 → j ≠ 8 → j ≠ 10 → j ≠ 11 → w1 j = w j) : kl_M → Prop) w1) ∨ ∃ E : String, ((fun E w1 => (E = "java/lang/IllegalArgumentException" ∧ w1 = w ∧ ¬ (mt_tab t nT ∧ a ≠ 0)) ∨ (E = "java/util/NoSuchElementException" ∧ w1 = w ∧ (mt_tab t nT ∧ a ≠ 0) ∧ ∀ p, p < 24 → ¬ T p = -1) ∨ (E = "java/lang/IllegalStateException" ∧ (mt_tab t nT ∧ a ≠ 0) ∧ ∃ p, p < 24 ∧ T p = -1 ∧ ∃ r, r ≠ 0 ∧ mt_st (-1) (mt_why (upd T p t) (mt_ins C p a b c d) nT nS stb sco nL lch lco lpa nC ctb cwd cln) r ∧ w1 0 = some (.inr (4, [.ref (B + 1), .int (nI nT), .ref (B + 2), .int (nI nL), .ref (B + 3), .int (nI nS), .ref (B + 4), .int (nI nC), .ref (B + 5), .int (nI nW), .ref (B + 6), .ref (B + 9), .ref (B + 12), .int (nI nM), .ref (B + 13), .int r])) ∧ kl_RU G B w1 nL lf la lch lco lpa lwy nS sf sa stb sco nC cf ca cwa cpa ctb cln cwd ccol ∧ w1 7 = some (kl_aI G 24 T) ∧ w1 8 = some (kl_aI G 96 C) ∧ kl_dr G w1 ∧ ∀ j : Nat, j < 48 → j ≠ 0 → j ≠ 7 → j ≠ 8 → j ≠ 10 → j ≠ 11 → w1 j = w j)) : String → kl_M → Prop) E w1 ∧ ((E = "java/lang/IllegalArgumentException" ∧ r = nI 1) ∨ (E = "java/util/NoSuchElementException" ∧ r = nI 2) ∨ (E = "java/lang/IllegalStateException" ∧ r = nI 3)))) (kl_X G B (fun E w1 => False)) 3 18 (kl_fr B) := by
  refine vx_ofWH (cc := cL_insert) (maxL := 7) (ret := (some .int)) (hh := [(0, 11, 14, 13), (0, 11, 18, 15), (0, 11, 22, 21)]) (by decide) rfl ?_
  intro pg e s m args below meth cd s₁ Bd hml hv
  obtain ⟨rfl, hP0, hK, hZ⟩ := hv
  have hx := Bd.exec
  have hb := Bd.bytes
  have hr := Bd.returns
  have hts := atoms_spec (ws := wsL_insert) Bd.pre
  have hown : s.vm.findClass RL = some m.cls := findClass_of_methodNamed Bd.named
  have hlocks := Bd.notSynchronized
  have htab := vx_table (x := yL_insert) Bd (hts (.codeWith yL_insert cL_insert 7 (some .int) [(0, 11, 14, 13), (0, 11, 18, 15), (0, 11, 22, 21)]) List.mem_cons_self)
  have hP := kl_S.rf hP0
  have hl := lv_entry ([.ref (B + 0), .int t, .int a, .int b, .int c, .int d]) (n := 7) (Nat.le_of_ble_eq_true rfl)
  rw [lg_entry_eq]
  generalize (lg_sl ([.ref (B + 0), .int t, .int a, .int b, .int c, .int d]) ++ List.replicate (7 - (lg_sl ([.ref (B + 0), .int t, .int a, .int b, .int c, .int d])).length) Slot.unset).toArray = ls at hl ⊢
  have hl : lv_has ls 7 [(0, .ref (B + 0)), (1, .int t), (2, .int a), (3, .int b), (4, .int c), (5, .int d)] := hl
  refine lv_aload_n hx hb dL_insert_0 rfl (lv_at hl 0 rfl) ?_
  refine lv_iload_n hx hb dL_insert_1 rfl (lv_at hl 1 rfl) ?_
  refine lv_iload_n hx hb dL_insert_2 rfl (lv_at hl 2 rfl) ?_
  refine lv_iload_n hx hb dL_insert_3 rfl (lv_at hl 3 rfl) ?_
  refine lv_iload hx hb dL_insert_4 (lv_at hl 4 rfl) ?_
  refine lv_iload hx hb dL_insert_6 (lv_at hl 5 rfl) ?_
  refine klx_cVv (C := RX4) (i := 0) (As := [.int t, .int a, .int b, .int c, .int d]) (rest := []) ⟨hx, hb, hml, hown, hts⟩ (c_X4_insert l hst G B _ t a b c d k0 k2 k3 k4 k6 k7 k8 k9 k10 k11 hnn hru) (cwV 5 hts gL_insert_X4_insert rfl rfl rfl (by decide +kernel) ⟨Nat.le_of_ble_eq_true rfl, Nat.le_of_ble_eq_true rfl⟩) hK hZ hP k0 rfl rfl hl.1 rfl (Nat.le_of_ble_eq_true rfl) dL_insert_8 ⟨Nat.le_of_ble_eq_true rfl, Nat.le_of_ble_eq_true rfl⟩ (fun E ce q9 w9 H locs hpx hP h9 hv9 hc9 => ?_) (fun  w4 H locs q5 hP => ?_)
  · have hE : E = "java/lang/IllegalArgumentException" ∨ E = "java/util/NoSuchElementException" ∨ E = "java/lang/IllegalStateException" := by rcases hpx with h | h | h <;> first | exact Or.inl h.1 | exact Or.inr (Or.inl h.1) | exact Or.inr (Or.inr (h.1))
    rcases hE with rfl | rfl | rfl
    · refine vx_catch (name := "java/lang/IllegalArgumentException") hown [] ⟨0, 11, 14, 13⟩ [⟨0, 11, 18, 15⟩, ⟨0, 11, 22, 21⟩] (htab.trans rfl) (fun _ h => absurd h List.not_mem_nil) (by decide) (by decide) (hts (.classLink RL 13 "java/lang/IllegalArgumentException") (by decide +kernel)) (va_Nw.use rfl (hK.2.1 ("java/lang/IllegalArgumentException", "java/lang/IllegalArgumentException") (by decide))) h9 hv9 hc9 ?_
      refine lv_astore (lv' := [(6, .ref q9), (0, .ref (B + 0)), (1, .int t), (2, .int a), (3, .int b), (4, .int c), (5, .int d)]) hx hb dL_insert_14 hl (by decide) rfl (fun ls hl => ?_)
      refine lv_iconst (v := nI 1) hx hb dL_insert_16 (by decide) ?_
      refine W.widen (k := 3) (n := 18) (by omega) (by omega) ?_
      refine vx_ret ?_
      exact kl_iret hx hb hr hlocks hP (Or.inr ⟨_, hpx, Or.inl ⟨rfl, rfl⟩⟩) dL_insert_17
    · refine vx_catch (name := "java/util/NoSuchElementException") hown [⟨0, 11, 14, 13⟩] ⟨0, 11, 18, 15⟩ [⟨0, 11, 22, 21⟩] (htab.trans rfl) (List.forall_mem_cons.mpr ⟨Or.inr ⟨by decide, _, hts (.classLink RL 13 "java/lang/IllegalArgumentException") (by decide +kernel), hK.2.2.1 ("java/util/NoSuchElementException", "java/lang/IllegalArgumentException") (by decide)⟩, (fun _ h => absurd h List.not_mem_nil)⟩) (by decide) (by decide) (hts (.classLink RL 15 "java/util/NoSuchElementException") (by decide +kernel)) (va_Nw.use rfl (hK.2.1 ("java/util/NoSuchElementException", "java/util/NoSuchElementException") (by decide))) h9 hv9 hc9 ?_
      refine lv_astore (lv' := [(6, .ref q9), (0, .ref (B + 0)), (1, .int t), (2, .int a), (3, .int b), (4, .int c), (5, .int d)]) hx hb dL_insert_18 hl (by decide) rfl (fun ls hl => ?_)
      refine lv_iconst (v := nI 2) hx hb dL_insert_20 (by decide) ?_
      refine W.widen (k := 3) (n := 18) (by omega) (by omega) ?_
      refine vx_ret ?_
      exact kl_iret hx hb hr hlocks hP (Or.inr ⟨_, hpx, Or.inr (Or.inl ⟨rfl, rfl⟩)⟩) dL_insert_21
    · refine vx_catch (name := "java/lang/IllegalStateException") hown [⟨0, 11, 14, 13⟩, ⟨0, 11, 18, 15⟩] ⟨0, 11, 22, 21⟩ [] (htab.trans rfl) (List.forall_mem_cons.mpr ⟨Or.inr ⟨by decide, _, hts (.classLink RL 13 "java/lang/IllegalArgumentException") (by decide +kernel), hK.2.2.1 ("java/lang/IllegalStateException", "java/lang/IllegalArgumentException") (by decide)⟩, (List.forall_mem_cons.mpr ⟨Or.inr ⟨by decide, _, hts (.classLink RL 15 "java/util/NoSuchElementException") (by decide +kernel), hK.2.2.1 ("java/lang/IllegalStateException", "java/util/NoSuchElementException") (by decide)⟩, (fun _ h => absurd h List.not_mem_nil)⟩)⟩) (by decide) (by decide) (hts (.classLink RL 21 "java/lang/IllegalStateException") (by decide +kernel)) (va_Nw.use rfl (hK.2.1 ("java/lang/IllegalStateException", "java/lang/IllegalStateException") (by decide))) h9 hv9 hc9 ?_
      refine lv_astore (lv' := [(6, .ref q9), (0, .ref (B + 0)), (1, .int t), (2, .int a), (3, .int b), (4, .int c), (5, .int d)]) hx hb dL_insert_22 hl (by decide) rfl (fun ls hl => ?_)
      refine lv_iconst (v := nI 3) hx hb dL_insert_24 (by decide) ?_
      refine W.widen (k := 3) (n := 18) (by omega) (by omega) ?_
      refine vx_ret ?_
      exact kl_iret hx hb hr hlocks hP (Or.inr ⟨_, hpx, Or.inr (Or.inr (⟨rfl, rfl⟩))⟩) dL_insert_25
  · refine lv_goto (tgt := 26) hx hb dL_insert_11 (by decide) ?_
    refine lv_iconst (v := nI 0) hx hb dL_insert_26 (by decide) ?_
    refine W.widen (k := 3) (n := 18) (by omega) (by omega) ?_
    refine vx_ret ?_
    exact kl_iret hx hb hr hlocks hP (Or.inl ⟨rfl, q5⟩) dL_insert_27

abbrev rm_L_delete : Room := { frames := 9, cells := 2, slots := 12, locals := 160 }
set_option maxHeartbeats 4000000 in
set_option maxRecDepth 100000 in
theorem c_L_delete (l : Launch) (hst : l.stackTraces = false) (G : kl_G) (B : Nat) (w : kl_M) {nT nW nM : Nat} {rs : Int32} {nL nS nC : Nat} {lf sf cf : Nat → Option Nat} {la : Nat → Nat} {lch : Nat → Int32} {lco : Nat → Nat} {lpa lwy : Nat → Int32} {sa : Nat → Nat} {stb : Nat → Int32} {sco ca cwa cpa : Nat → Nat} {ctb : Nat → Int32} {cln : Nat → Nat} {cwd : Nat → Nat → Nat} {ccol : Nat → Nat} {cn : Nat → Nat} {T C dT dC gg : Nat → Int32} (t c x : Int32) {ol : Nat → Int64} (k0 : w 0 = some (.inr (4, [.ref (B + 1), .int (nI nT), .ref (B + 2), .int (nI nL), .ref (B + 3), .int (nI nS), .ref (B + 4), .int (nI nC), .ref (B + 5), .int (nI nW), .ref (B + 6), .ref (B + 9), .ref (B + 12), .int (nI nM), .ref (B + 13), .int rs]))) (k1 : w 1 = some (kl_aI G 4 ((fun t => nI (cn t))))) (k2 : w 2 = some (kl_aR G 3 6 lf)) (k3 : w 3 = some (kl_aR G 4 4 sf)) (k4 : w 4 = some (kl_aR G 5 4 cf)) (k6 : w 6 = some (.inr (2, [.ref (B + 7), .ref (B + 8)]))) (k7 : w 7 = some (kl_aI G 24 T)) (k8 : w 8 = some (kl_aI G 96 C)) (k9 : w 9 = some (.inr (2, [.ref (B + 10), .ref (B + 11)]))) (k10 : w 10 = some (kl_aI G 24 dT)) (k11 : w 11 = some (kl_aI G 96 dC)) (k13 : w 13 = some (kl_aZ G 24 gg)) (k47 : w 47 = some (kl_aL G 1 ol)) (hnn : nT ≤ 4 ∧ nL ≤ 6 ∧ nS ≤ 4 ∧ nC ≤ 4 ∧ nW ≤ 10 ∧ nM ≤ 4) (hru : kl_RU G B w nL lf la lch lco lpa lwy nS sf sa stb sco nC cf ca cwa cpa ctb cln cwd ccol) (hcn4 : ∀ j, j < nT → cn j ≤ 4) (hu : mt_uniq T C) (hpar : ∀ l, l < nL → lpa l ≠ -1) : vx_Met l yL_delete wsL_delete rm_L_delete (kl_Px G B w [.ref (B + 0), .int t, .int c, .int x, .ref (B + 47)]) (kl_Qi G B (fun r w1 => (r = nI 0 ∧ ∃ (v : Int32) (w2 : kl_M) (u : Int64), ((fun r w1 => mt_col t c nT cn ∧ ∃ q g1 g2 d2 kp, q < 4 ∧ c = nI q ∧ (∀ p, p < 24 → mt_mark T C t q x p (g1 p)) ∧ mt_from T C nL lch lco lpa lwy g1 g2 ∧ (∀ l p, p < 24 → l < nL → mt_chk T C g2 lch lco lpa lwy l p) ∧ mt_wr 24 (fun l _ => l < nL) (fun l p => lwy l = nI 2 ∧ g2 p = 0 ∧ mt_lost T C g2 (lch l) (lco l) (lpa l) p) lco (fun _ => nI 0) C d2 ∧ mt_kp 24 (fun l _ => l < nL) (fun l p => lwy l = 0 ∧ g2 p = 0 ∧ mt_lost T C g2 (lch l) (lco l) (lpa l) p) kp ∧ r = nI (mt_gc 24 g2) ∧ mt_st kp (mt_why (mt_rm g2 T) d2 nT nS stb sco nL lch lco lpa nC ctb cwd cln) (nI 0) ∧ w1 0 = some (.inr (4, [.ref (B + 1), .int (nI nT), .ref (B + 2), .int (nI nL), .ref (B + 3), .int (nI nS), .ref (B + 4), .int (nI nC), .ref (B + 5), .int (nI nW), .ref (B + 6), .ref (B + 9), .ref (B + 12), .int (nI nM), .ref (B + 13), .int rs])) ∧ kl_RU G B w1 nL lf la lch lco lpa lwy nS sf sa stb sco nC cf ca cwa cpa ctb cln cwd ccol ∧ w1 7 = some (kl_aI G 24 (mt_rm g2 T)) ∧ w1 8 = some (kl_aI G 96 d2) ∧ kl_dr G w1 ∧ (∀ j : Nat, j < 48 → j ≠ 0 → j ≠ 7 → j ≠ 8 → j ≠ 10 → j ≠ 11 → j ≠ 13 → w1 j = w j) ∧ ∃ gg, w1 13 = some (kl_aZ G 24 gg)) : Int32 → kl_M → Prop) v w2 ∧ u = v.toInt64 ∧ w1 47 = some (kl_aL G 1 (vp_updL ol 0 u)) ∧ ∀ j : Nat, j ≠ 47 → w1 j = w2 j) ∨ ∃ E : String, ((fun E w1 => (E = "java/lang/IllegalArgumentException" ∧ w1 = w ∧ ¬ mt_col t c nT cn) ∨ (E = "java/lang/IllegalStateException" ∧ mt_col t c nT cn ∧ ∃ q g1 g2 d2 kp, q < 4 ∧ c = nI q ∧ (∀ p, p < 24 → mt_mark T C t q x p (g1 p)) ∧ mt_from T C nL lch lco lpa lwy g1 g2 ∧ (∀ l p, p < 24 → l < nL → mt_chk T C g2 lch lco lpa lwy l p) ∧ mt_wr 24 (fun l _ => l < nL) (fun l p => lwy l = nI 2 ∧ g2 p = 0 ∧ mt_lost T C g2 (lch l) (lco l) (lpa l) p) lco (fun _ => nI 0) C d2 ∧ mt_kp 24 (fun l _ => l < nL) (fun l p => lwy l = 0 ∧ g2 p = 0 ∧ mt_lost T C g2 (lch l) (lco l) (lpa l) p) kp ∧ (∃ gg, w1 13 = some (kl_aZ G 24 gg)) ∧ ∃ r, r ≠ 0 ∧ mt_st kp (mt_why (mt_rm g2 T) d2 nT nS stb sco nL lch lco lpa nC ctb cwd cln) r ∧ w1 0 = some (.inr (4, [.ref (B + 1), .int (nI nT), .ref (B + 2), .int (nI nL), .ref (B + 3), .int (nI nS), .ref (B + 4), .int (nI nC), .ref (B + 5), .int (nI nW), .ref (B + 6), .ref (B + 9), .ref (B + 12), .int (nI nM), .ref (B + 13), .int r])) ∧ kl_RU G B w1 nL lf la lch lco lpa lwy nS sf sa stb sco nC cf ca cwa cpa ctb cln cwd ccol ∧ w1 7 = some (kl_aI G 24 T) ∧ w1 8 = some (kl_aI G 96 C) ∧ kl_dr G w1 ∧ ∀ j : Nat, j < 48 → j ≠ 0 → j ≠ 7 → j ≠ 8 → j ≠ 10 → j ≠ 11 → j ≠ 13 → w1 j = w j)) : String → kl_M → Prop) E w1 ∧ ((E = "java/lang/IllegalArgumentException" ∧ r = nI 1) ∨ (E = "java/lang/IllegalStateException" ∧ r = nI 2)))) (kl_X G B (fun E w1 => False)) 2 12 (kl_fr B) := by
  refine vx_ofWH (cc := cL_delete) (maxL := 6) (ret := (some .int)) (hh := [(0, 12, 15, 13), (0, 12, 19, 21)]) (by decide) rfl ?_
  intro pg e s m args below meth cd s₁ Bd hml hv
  obtain ⟨rfl, hP0, hK, hZ⟩ := hv
  have hx := Bd.exec
  have hb := Bd.bytes
  have hr := Bd.returns
  have hts := atoms_spec (ws := wsL_delete) Bd.pre
  have hown : s.vm.findClass RL = some m.cls := findClass_of_methodNamed Bd.named
  have hlocks := Bd.notSynchronized
  have htab := vx_table (x := yL_delete) Bd (hts (.codeWith yL_delete cL_delete 6 (some .int) [(0, 12, 15, 13), (0, 12, 19, 21)]) List.mem_cons_self)
  have hP := kl_S.rf hP0
  have hl := lv_entry ([.ref (B + 0), .int t, .int c, .int x, .ref (B + 47)]) (n := 6) (Nat.le_of_ble_eq_true rfl)
  rw [lg_entry_eq]
  generalize (lg_sl ([.ref (B + 0), .int t, .int c, .int x, .ref (B + 47)]) ++ List.replicate (6 - (lg_sl ([.ref (B + 0), .int t, .int c, .int x, .ref (B + 47)])).length) Slot.unset).toArray = ls at hl ⊢
  have hl : lv_has ls 6 [(0, .ref (B + 0)), (1, .int t), (2, .int c), (3, .int x), (4, .ref (B + 47))] := hl
  refine lv_aload hx hb dL_delete_0 (lv_at hl 4 rfl) ?_
  refine lv_iconst (v := nI 0) hx hb dL_delete_2 (by decide) ?_
  refine lv_aload_n hx hb dL_delete_3 rfl (lv_at hl 0 rfl) ?_
  refine lv_iload_n hx hb dL_delete_4 rfl (lv_at hl 1 rfl) ?_
  refine lv_iload_n hx hb dL_delete_5 rfl (lv_at hl 2 rfl) ?_
  refine lv_iload_n hx hb dL_delete_6 rfl (lv_at hl 3 rfl) ?_
  refine klx_cVi (C := RX4) (i := 0) (As := [.int t, .int c, .int x]) (rest := [.int (nI 0), .ref (B + 47)]) ⟨hx, hb, hml, hown, hts⟩ (c_X4_delete l hst G B _ t c x k0 k1 k2 k3 k4 k6 k7 k8 k9 k10 k11 k13 hnn hru hcn4 hu hpar) (cwV 3 hts gL_delete_X4_delete rfl rfl rfl (by decide +kernel) ⟨Nat.le_of_ble_eq_true rfl, Nat.le_of_ble_eq_true rfl⟩) hK hZ hP k0 rfl rfl hl.1 rfl (Nat.le_of_ble_eq_true rfl) dL_delete_7 ⟨Nat.le_of_ble_eq_true rfl, Nat.le_of_ble_eq_true rfl⟩ (fun E ce q9 w9 H locs hpx hP h9 hv9 hc9 => ?_) (fun r6  w4 H locs q5 hP => ?_)
  · have hE : E = "java/lang/IllegalArgumentException" ∨ E = "java/lang/IllegalStateException" := by rcases hpx with h | h <;> first | exact Or.inl h.1 | exact Or.inr (h.1)
    rcases hE with rfl | rfl
    · refine vx_catch (name := "java/lang/IllegalArgumentException") hown [] ⟨0, 12, 15, 13⟩ [⟨0, 12, 19, 21⟩] (htab.trans rfl) (fun _ h => absurd h List.not_mem_nil) (by decide) (by decide) (hts (.classLink RL 13 "java/lang/IllegalArgumentException") (by decide +kernel)) (va_Nw.use rfl (hK.2.1 ("java/lang/IllegalArgumentException", "java/lang/IllegalArgumentException") (by decide))) h9 hv9 hc9 ?_
      refine lv_astore (lv' := [(5, .ref q9), (0, .ref (B + 0)), (1, .int t), (2, .int c), (3, .int x), (4, .ref (B + 47))]) hx hb dL_delete_15 hl (by decide) rfl (fun ls hl => ?_)
      refine lv_iconst (v := nI 1) hx hb dL_delete_17 (by decide) ?_
      refine W.widen (k := 2) (n := 12) (by omega) (by omega) ?_
      refine vx_ret ?_
      exact kl_iret hx hb hr hlocks hP (Or.inr ⟨_, hpx, Or.inl ⟨rfl, rfl⟩⟩) dL_delete_18
    · refine vx_catch (name := "java/lang/IllegalStateException") hown [⟨0, 12, 15, 13⟩] ⟨0, 12, 19, 21⟩ [] (htab.trans rfl) (List.forall_mem_cons.mpr ⟨Or.inr ⟨by decide, _, hts (.classLink RL 13 "java/lang/IllegalArgumentException") (by decide +kernel), hK.2.2.1 ("java/lang/IllegalStateException", "java/lang/IllegalArgumentException") (by decide)⟩, (fun _ h => absurd h List.not_mem_nil)⟩) (by decide) (by decide) (hts (.classLink RL 21 "java/lang/IllegalStateException") (by decide +kernel)) (va_Nw.use rfl (hK.2.1 ("java/lang/IllegalStateException", "java/lang/IllegalStateException") (by decide))) h9 hv9 hc9 ?_
      refine lv_astore (lv' := [(5, .ref q9), (0, .ref (B + 0)), (1, .int t), (2, .int c), (3, .int x), (4, .ref (B + 47))]) hx hb dL_delete_19 hl (by decide) rfl (fun ls hl => ?_)
      refine lv_iconst (v := nI 2) hx hb dL_delete_21 (by decide) ?_
      refine W.widen (k := 2) (n := 12) (by omega) (by omega) ?_
      refine vx_ret ?_
      exact kl_iret hx hb hr hlocks hP (Or.inr ⟨_, hpx, Or.inr (⟨rfl, rfl⟩)⟩) dL_delete_22
  · have f7 : w4 47 = some (kl_aL G 1 ol) := by obtain ⟨-, q9, g1, g2, d2, kp, -, -, -, -, -, -, -, -, -, -, -, -, -, -, hfr, -⟩ := q5; exact (hfr 47 (by decide) (by decide) (by decide) (by decide) (by decide) (by decide) (by decide)).trans k47
    refine lv_i2l hx hb dL_delete_10 rfl ?_
    refine kl_last hx hb hK hP f7 (by omega) (by omega) dL_delete_11 (fun w8 H locs f9 fr10 hzw8 hP => ?_)
    refine lv_goto (tgt := 23) hx hb dL_delete_12 (by decide) ?_
    refine lv_iconst (v := nI 0) hx hb dL_delete_23 (by decide) ?_
    refine W.widen (k := 2) (n := 12) (by omega) (by omega) ?_
    refine vx_ret ?_
    exact kl_iret hx hb hr hlocks hP (Or.inl ⟨rfl, _, _, _, q5, rfl, f9, fr10⟩) dL_delete_24

abbrev rm_L_update : Room := { frames := 9, cells := 3, slots := 18, locals := 161 }
set_option maxHeartbeats 4000000 in
set_option maxRecDepth 100000 in
theorem c_L_update (l : Launch) (hst : l.stackTraces = false) (G : kl_G) (B : Nat) (w : kl_M) {nT nW nM : Nat} {rs : Int32} {nL nS nC : Nat} {lf sf cf : Nat → Option Nat} {la : Nat → Nat} {lch : Nat → Int32} {lco : Nat → Nat} {lpa lwy : Nat → Int32} {sa : Nat → Nat} {stb : Nat → Int32} {sco ca cwa cpa : Nat → Nat} {ctb : Nat → Int32} {cln : Nat → Nat} {cwd : Nat → Nat → Nat} {ccol : Nat → Nat} {cn : Nat → Nat} {T C dT dC : Nat → Int32} (t k c x : Int32) {ol : Nat → Int64} (k0 : w 0 = some (.inr (4, [.ref (B + 1), .int (nI nT), .ref (B + 2), .int (nI nL), .ref (B + 3), .int (nI nS), .ref (B + 4), .int (nI nC), .ref (B + 5), .int (nI nW), .ref (B + 6), .ref (B + 9), .ref (B + 12), .int (nI nM), .ref (B + 13), .int rs]))) (k1 : w 1 = some (kl_aI G 4 ((fun t => nI (cn t))))) (k2 : w 2 = some (kl_aR G 3 6 lf)) (k3 : w 3 = some (kl_aR G 4 4 sf)) (k4 : w 4 = some (kl_aR G 5 4 cf)) (k6 : w 6 = some (.inr (2, [.ref (B + 7), .ref (B + 8)]))) (k7 : w 7 = some (kl_aI G 24 T)) (k8 : w 8 = some (kl_aI G 96 C)) (k9 : w 9 = some (.inr (2, [.ref (B + 10), .ref (B + 11)]))) (k10 : w 10 = some (kl_aI G 24 dT)) (k11 : w 11 = some (kl_aI G 96 dC)) (k47 : w 47 = some (kl_aL G 1 ol)) (hnn : nT ≤ 4 ∧ nL ≤ 6 ∧ nS ≤ 4 ∧ nC ≤ 4 ∧ nW ≤ 10 ∧ nM ≤ 4) (hru : kl_RU G B w nL lf la lch lco lpa lwy nS sf sa stb sco nC cf ca cwa cpa ctb cln cwd ccol) (hcn4 : ∀ j, j < nT → cn j ≤ 4) (hu : mt_uniq T C) (hpar : ∀ l, l < nL → lpa l ≠ -1) : vx_Met l yL_update wsL_update rm_L_update (kl_Px G B w [.ref (B + 0), .int t, .int k, .int c, .int x, .ref (B + 47)]) (kl_Qi G B (fun r w1 => (r = nI 0 ∧ ∃ (v : Int32) (w2 : kl_M) (u : Int64), ((fun r w1 => (mt_col t c nT cn ∧ (c ≠ 0 ∨ x ≠ 0)) ∧ ∃ p q kp d2, p < 24 ∧ q < 4 ∧ c = nI q ∧ T p = t ∧ C (4 * p) = k ∧ r = C (4 * p + q) ∧ mt_up T C nL lch lco lpa lwy p q x kp d2 ∧ mt_st kp (mt_why T d2 nT nS stb sco nL lch lco lpa nC ctb cwd cln) (nI 0) ∧ w1 0 = some (.inr (4, [.ref (B + 1), .int (nI nT), .ref (B + 2), .int (nI nL), .ref (B + 3), .int (nI nS), .ref (B + 4), .int (nI nC), .ref (B + 5), .int (nI nW), .ref (B + 6), .ref (B + 9), .ref (B + 12), .int (nI nM), .ref (B + 13), .int rs])) ∧ kl_RU G B w1 nL lf la lch lco lpa lwy nS sf sa stb sco nC cf ca cwa cpa ctb cln cwd ccol ∧ w1 7 = some (kl_aI G 24 T) ∧ w1 8 = some (kl_aI G 96 d2) ∧ kl_dr G w1 ∧ ∀ j : Nat, j < 48 → j ≠ 0 → j ≠ 7 → j ≠ 8 → j ≠ 10 → j ≠ 11 → w1 j = w j) : Int32 → kl_M → Prop) v w2 ∧ u = v.toInt64 ∧ w1 47 = some (kl_aL G 1 (vp_updL ol 0 u)) ∧ ∀ j : Nat, j ≠ 47 → w1 j = w2 j) ∨ ∃ E : String, ((fun E w1 => (E = "java/lang/IllegalArgumentException" ∧ w1 = w ∧ ¬ (mt_col t c nT cn ∧ (c ≠ 0 ∨ x ≠ 0))) ∨ (E = "java/util/NoSuchElementException" ∧ w1 = w ∧ (mt_col t c nT cn ∧ (c ≠ 0 ∨ x ≠ 0)) ∧ ¬ mt_has T C t k) ∨ (E = "java/lang/IllegalStateException" ∧ (mt_col t c nT cn ∧ (c ≠ 0 ∨ x ≠ 0)) ∧ ∃ p q kp d2, p < 24 ∧ q < 4 ∧ c = nI q ∧ T p = t ∧ C (4 * p) = k ∧ mt_up T C nL lch lco lpa lwy p q x kp d2 ∧ ∃ r, r ≠ 0 ∧ mt_st kp (mt_why T d2 nT nS stb sco nL lch lco lpa nC ctb cwd cln) r ∧ w1 0 = some (.inr (4, [.ref (B + 1), .int (nI nT), .ref (B + 2), .int (nI nL), .ref (B + 3), .int (nI nS), .ref (B + 4), .int (nI nC), .ref (B + 5), .int (nI nW), .ref (B + 6), .ref (B + 9), .ref (B + 12), .int (nI nM), .ref (B + 13), .int r])) ∧ kl_RU G B w1 nL lf la lch lco lpa lwy nS sf sa stb sco nC cf ca cwa cpa ctb cln cwd ccol ∧ w1 7 = some (kl_aI G 24 T) ∧ w1 8 = some (kl_aI G 96 C) ∧ kl_dr G w1 ∧ ∀ j : Nat, j < 48 → j ≠ 0 → j ≠ 7 → j ≠ 8 → j ≠ 10 → j ≠ 11 → w1 j = w j)) : String → kl_M → Prop) E w1 ∧ ((E = "java/lang/IllegalArgumentException" ∧ r = nI 1) ∨ (E = "java/util/NoSuchElementException" ∧ r = nI 2) ∨ (E = "java/lang/IllegalStateException" ∧ r = nI 3)))) (kl_X G B (fun E w1 => False)) 3 18 (kl_fr B) := by
  refine vx_ofWH (cc := cL_update) (maxL := 7) (ret := (some .int)) (hh := [(0, 14, 17, 13), (0, 14, 21, 15), (0, 14, 25, 21)]) (by decide) rfl ?_
  intro pg e s m args below meth cd s₁ Bd hml hv
  obtain ⟨rfl, hP0, hK, hZ⟩ := hv
  have hx := Bd.exec
  have hb := Bd.bytes
  have hr := Bd.returns
  have hts := atoms_spec (ws := wsL_update) Bd.pre
  have hown : s.vm.findClass RL = some m.cls := findClass_of_methodNamed Bd.named
  have hlocks := Bd.notSynchronized
  have htab := vx_table (x := yL_update) Bd (hts (.codeWith yL_update cL_update 7 (some .int) [(0, 14, 17, 13), (0, 14, 21, 15), (0, 14, 25, 21)]) List.mem_cons_self)
  have hP := kl_S.rf hP0
  have hl := lv_entry ([.ref (B + 0), .int t, .int k, .int c, .int x, .ref (B + 47)]) (n := 7) (Nat.le_of_ble_eq_true rfl)
  rw [lg_entry_eq]
  generalize (lg_sl ([.ref (B + 0), .int t, .int k, .int c, .int x, .ref (B + 47)]) ++ List.replicate (7 - (lg_sl ([.ref (B + 0), .int t, .int k, .int c, .int x, .ref (B + 47)])).length) Slot.unset).toArray = ls at hl ⊢
  have hl : lv_has ls 7 [(0, .ref (B + 0)), (1, .int t), (2, .int k), (3, .int c), (4, .int x), (5, .ref (B + 47))] := hl
  refine lv_aload hx hb dL_update_0 (lv_at hl 5 rfl) ?_
  refine lv_iconst (v := nI 0) hx hb dL_update_2 (by decide) ?_
  refine lv_aload_n hx hb dL_update_3 rfl (lv_at hl 0 rfl) ?_
  refine lv_iload_n hx hb dL_update_4 rfl (lv_at hl 1 rfl) ?_
  refine lv_iload_n hx hb dL_update_5 rfl (lv_at hl 2 rfl) ?_
  refine lv_iload_n hx hb dL_update_6 rfl (lv_at hl 3 rfl) ?_
  refine lv_iload hx hb dL_update_7 (lv_at hl 4 rfl) ?_
  refine klx_cVi (C := RX4) (i := 0) (As := [.int t, .int k, .int c, .int x]) (rest := [.int (nI 0), .ref (B + 47)]) ⟨hx, hb, hml, hown, hts⟩ (c_X4_update l hst G B _ t k c x k0 k1 k2 k3 k4 k6 k7 k8 k9 k10 k11 hnn hru hcn4 hu hpar) (cwV 4 hts gL_update_X4_update rfl rfl rfl (by decide +kernel) ⟨Nat.le_of_ble_eq_true rfl, Nat.le_of_ble_eq_true rfl⟩) hK hZ hP k0 rfl rfl hl.1 rfl (Nat.le_of_ble_eq_true rfl) dL_update_9 ⟨Nat.le_of_ble_eq_true rfl, Nat.le_of_ble_eq_true rfl⟩ (fun E ce q9 w9 H locs hpx hP h9 hv9 hc9 => ?_) (fun r6  w4 H locs q5 hP => ?_)
  · have hE : E = "java/lang/IllegalArgumentException" ∨ E = "java/util/NoSuchElementException" ∨ E = "java/lang/IllegalStateException" := by rcases hpx with h | h | h <;> first | exact Or.inl h.1 | exact Or.inr (Or.inl h.1) | exact Or.inr (Or.inr (h.1))
    rcases hE with rfl | rfl | rfl
    · refine vx_catch (name := "java/lang/IllegalArgumentException") hown [] ⟨0, 14, 17, 13⟩ [⟨0, 14, 21, 15⟩, ⟨0, 14, 25, 21⟩] (htab.trans rfl) (fun _ h => absurd h List.not_mem_nil) (by decide) (by decide) (hts (.classLink RL 13 "java/lang/IllegalArgumentException") (by decide +kernel)) (va_Nw.use rfl (hK.2.1 ("java/lang/IllegalArgumentException", "java/lang/IllegalArgumentException") (by decide))) h9 hv9 hc9 ?_
      refine lv_astore (lv' := [(6, .ref q9), (0, .ref (B + 0)), (1, .int t), (2, .int k), (3, .int c), (4, .int x), (5, .ref (B + 47))]) hx hb dL_update_17 hl (by decide) rfl (fun ls hl => ?_)
      refine lv_iconst (v := nI 1) hx hb dL_update_19 (by decide) ?_
      refine W.widen (k := 3) (n := 18) (by omega) (by omega) ?_
      refine vx_ret ?_
      exact kl_iret hx hb hr hlocks hP (Or.inr ⟨_, hpx, Or.inl ⟨rfl, rfl⟩⟩) dL_update_20
    · refine vx_catch (name := "java/util/NoSuchElementException") hown [⟨0, 14, 17, 13⟩] ⟨0, 14, 21, 15⟩ [⟨0, 14, 25, 21⟩] (htab.trans rfl) (List.forall_mem_cons.mpr ⟨Or.inr ⟨by decide, _, hts (.classLink RL 13 "java/lang/IllegalArgumentException") (by decide +kernel), hK.2.2.1 ("java/util/NoSuchElementException", "java/lang/IllegalArgumentException") (by decide)⟩, (fun _ h => absurd h List.not_mem_nil)⟩) (by decide) (by decide) (hts (.classLink RL 15 "java/util/NoSuchElementException") (by decide +kernel)) (va_Nw.use rfl (hK.2.1 ("java/util/NoSuchElementException", "java/util/NoSuchElementException") (by decide))) h9 hv9 hc9 ?_
      refine lv_astore (lv' := [(6, .ref q9), (0, .ref (B + 0)), (1, .int t), (2, .int k), (3, .int c), (4, .int x), (5, .ref (B + 47))]) hx hb dL_update_21 hl (by decide) rfl (fun ls hl => ?_)
      refine lv_iconst (v := nI 2) hx hb dL_update_23 (by decide) ?_
      refine W.widen (k := 3) (n := 18) (by omega) (by omega) ?_
      refine vx_ret ?_
      exact kl_iret hx hb hr hlocks hP (Or.inr ⟨_, hpx, Or.inr (Or.inl ⟨rfl, rfl⟩)⟩) dL_update_24
    · refine vx_catch (name := "java/lang/IllegalStateException") hown [⟨0, 14, 17, 13⟩, ⟨0, 14, 21, 15⟩] ⟨0, 14, 25, 21⟩ [] (htab.trans rfl) (List.forall_mem_cons.mpr ⟨Or.inr ⟨by decide, _, hts (.classLink RL 13 "java/lang/IllegalArgumentException") (by decide +kernel), hK.2.2.1 ("java/lang/IllegalStateException", "java/lang/IllegalArgumentException") (by decide)⟩, (List.forall_mem_cons.mpr ⟨Or.inr ⟨by decide, _, hts (.classLink RL 15 "java/util/NoSuchElementException") (by decide +kernel), hK.2.2.1 ("java/lang/IllegalStateException", "java/util/NoSuchElementException") (by decide)⟩, (fun _ h => absurd h List.not_mem_nil)⟩)⟩) (by decide) (by decide) (hts (.classLink RL 21 "java/lang/IllegalStateException") (by decide +kernel)) (va_Nw.use rfl (hK.2.1 ("java/lang/IllegalStateException", "java/lang/IllegalStateException") (by decide))) h9 hv9 hc9 ?_
      refine lv_astore (lv' := [(6, .ref q9), (0, .ref (B + 0)), (1, .int t), (2, .int k), (3, .int c), (4, .int x), (5, .ref (B + 47))]) hx hb dL_update_25 hl (by decide) rfl (fun ls hl => ?_)
      refine lv_iconst (v := nI 3) hx hb dL_update_27 (by decide) ?_
      refine W.widen (k := 3) (n := 18) (by omega) (by omega) ?_
      refine vx_ret ?_
      exact kl_iret hx hb hr hlocks hP (Or.inr ⟨_, hpx, Or.inr (Or.inr (⟨rfl, rfl⟩))⟩) dL_update_28
  · have f7 : w4 47 = some (kl_aL G 1 ol) := by obtain ⟨-, p9, q9, kp, d2, -, -, -, -, -, -, -, -, -, -, -, -, -, hfr⟩ := q5; exact (hfr 47 (by decide) (by decide) (by decide) (by decide) (by decide) (by decide)).trans k47
    refine lv_i2l hx hb dL_update_12 rfl ?_
    refine kl_last hx hb hK hP f7 (by omega) (by omega) dL_update_13 (fun w8 H locs f9 fr10 hzw8 hP => ?_)
    refine lv_goto (tgt := 29) hx hb dL_update_14 (by decide) ?_
    refine lv_iconst (v := nI 0) hx hb dL_update_29 (by decide) ?_
    refine W.widen (k := 3) (n := 18) (by omega) (by omega) ?_
    refine vx_ret ?_
    exact kl_iret hx hb hr hlocks hP (Or.inl ⟨rfl, _, _, _, q5, rfl, f9, fr10⟩) dL_update_30

abbrev rm_L_shift : Room := { frames := 9, cells := 2, slots := 12, locals := 159 }
set_option maxHeartbeats 4000000 in
set_option maxRecDepth 100000 in
theorem c_L_shift (l : Launch) (hst : l.stackTraces = false) (G : kl_G) (B : Nat) (w : kl_M) {nT nW nM : Nat} {rs : Int32} {nL nS nC : Nat} {lf sf cf : Nat → Option Nat} {la : Nat → Nat} {lch : Nat → Int32} {lco : Nat → Nat} {lpa lwy : Nat → Int32} {sa : Nat → Nat} {stb : Nat → Int32} {sco ca cwa cpa : Nat → Nat} {ctb : Nat → Int32} {cln : Nat → Nat} {cwd : Nat → Nat → Nat} {ccol : Nat → Nat} {cn : Nat → Nat} {T C dT dC : Nat → Int32} (t c b9 : Int32) {ol : Nat → Int64} (k0 : w 0 = some (.inr (4, [.ref (B + 1), .int (nI nT), .ref (B + 2), .int (nI nL), .ref (B + 3), .int (nI nS), .ref (B + 4), .int (nI nC), .ref (B + 5), .int (nI nW), .ref (B + 6), .ref (B + 9), .ref (B + 12), .int (nI nM), .ref (B + 13), .int rs]))) (k1 : w 1 = some (kl_aI G 4 ((fun t => nI (cn t))))) (k2 : w 2 = some (kl_aR G 3 6 lf)) (k3 : w 3 = some (kl_aR G 4 4 sf)) (k4 : w 4 = some (kl_aR G 5 4 cf)) (k6 : w 6 = some (.inr (2, [.ref (B + 7), .ref (B + 8)]))) (k7 : w 7 = some (kl_aI G 24 T)) (k8 : w 8 = some (kl_aI G 96 C)) (k9 : w 9 = some (.inr (2, [.ref (B + 10), .ref (B + 11)]))) (k10 : w 10 = some (kl_aI G 24 dT)) (k11 : w 11 = some (kl_aI G 96 dC)) (k47 : w 47 = some (kl_aL G 1 ol)) (hnn : nT ≤ 4 ∧ nL ≤ 6 ∧ nS ≤ 4 ∧ nC ≤ 4 ∧ nW ≤ 10 ∧ nM ≤ 4) (hru : kl_RU G B w nL lf la lch lco lpa lwy nS sf sa stb sco nC cf ca cwa cpa ctb cln cwd ccol) (hcn4 : ∀ j, j < nT → cn j ≤ 4) : vx_Met l yL_shift wsL_shift rm_L_shift (kl_Px G B w [.ref (B + 0), .int t, .int c, .int b9, .ref (B + 47)]) (kl_Qi G B (fun r w1 => (r = nI 0 ∧ ∃ (v : Int32) (w2 : kl_M) (u : Int64), ((fun r w1 => (mt_col t c nT cn ∧ c ≠ 0) ∧ r = nI (mt_ct (fun q => T q = t) 24) ∧ ∃ q, 0 < q ∧ q < 4 ∧ c = nI q ∧ mt_st (-1) (mt_why T (mt_shf T C t q b9) nT nS stb sco nL lch lco lpa nC ctb cwd cln) (nI 0) ∧ w1 0 = some (.inr (4, [.ref (B + 1), .int (nI nT), .ref (B + 2), .int (nI nL), .ref (B + 3), .int (nI nS), .ref (B + 4), .int (nI nC), .ref (B + 5), .int (nI nW), .ref (B + 6), .ref (B + 9), .ref (B + 12), .int (nI nM), .ref (B + 13), .int rs])) ∧ kl_RU G B w1 nL lf la lch lco lpa lwy nS sf sa stb sco nC cf ca cwa cpa ctb cln cwd ccol ∧ w1 7 = some (kl_aI G 24 T) ∧ w1 8 = some (kl_aI G 96 (mt_shf T C t q b9)) ∧ kl_dr G w1 ∧ ∀ j : Nat, j < 48 → j ≠ 0 → j ≠ 7 → j ≠ 8 → j ≠ 10 → j ≠ 11 → w1 j = w j) : Int32 → kl_M → Prop) v w2 ∧ u = v.toInt64 ∧ w1 47 = some (kl_aL G 1 (vp_updL ol 0 u)) ∧ ∀ j : Nat, j ≠ 47 → w1 j = w2 j) ∨ ∃ E : String, ((fun E w1 => (E = "java/lang/IllegalArgumentException" ∧ w1 = w ∧ ¬ (mt_col t c nT cn ∧ c ≠ 0)) ∨ (E = "java/lang/IllegalStateException" ∧ (mt_col t c nT cn ∧ c ≠ 0) ∧ ∃ q, 0 < q ∧ q < 4 ∧ c = nI q ∧ ∃ r, r ≠ 0 ∧ mt_st (-1) (mt_why T (mt_shf T C t q b9) nT nS stb sco nL lch lco lpa nC ctb cwd cln) r ∧ w1 0 = some (.inr (4, [.ref (B + 1), .int (nI nT), .ref (B + 2), .int (nI nL), .ref (B + 3), .int (nI nS), .ref (B + 4), .int (nI nC), .ref (B + 5), .int (nI nW), .ref (B + 6), .ref (B + 9), .ref (B + 12), .int (nI nM), .ref (B + 13), .int r])) ∧ kl_RU G B w1 nL lf la lch lco lpa lwy nS sf sa stb sco nC cf ca cwa cpa ctb cln cwd ccol ∧ w1 7 = some (kl_aI G 24 T) ∧ w1 8 = some (kl_aI G 96 C) ∧ kl_dr G w1 ∧ ∀ j : Nat, j < 48 → j ≠ 0 → j ≠ 7 → j ≠ 8 → j ≠ 10 → j ≠ 11 → w1 j = w j)) : String → kl_M → Prop) E w1 ∧ ((E = "java/lang/IllegalArgumentException" ∧ r = nI 1) ∨ (E = "java/lang/IllegalStateException" ∧ r = nI 2)))) (kl_X G B (fun E w1 => False)) 2 12 (kl_fr B) := by
  refine vx_ofWH (cc := cL_shift) (maxL := 6) (ret := (some .int)) (hh := [(0, 12, 15, 13), (0, 12, 19, 21)]) (by decide) rfl ?_
  intro pg e s m args below meth cd s₁ Bd hml hv
  obtain ⟨rfl, hP0, hK, hZ⟩ := hv
  have hx := Bd.exec
  have hb := Bd.bytes
  have hr := Bd.returns
  have hts := atoms_spec (ws := wsL_shift) Bd.pre
  have hown : s.vm.findClass RL = some m.cls := findClass_of_methodNamed Bd.named
  have hlocks := Bd.notSynchronized
  have htab := vx_table (x := yL_shift) Bd (hts (.codeWith yL_shift cL_shift 6 (some .int) [(0, 12, 15, 13), (0, 12, 19, 21)]) List.mem_cons_self)
  have hP := kl_S.rf hP0
  have hl := lv_entry ([.ref (B + 0), .int t, .int c, .int b9, .ref (B + 47)]) (n := 6) (Nat.le_of_ble_eq_true rfl)
  rw [lg_entry_eq]
  generalize (lg_sl ([.ref (B + 0), .int t, .int c, .int b9, .ref (B + 47)]) ++ List.replicate (6 - (lg_sl ([.ref (B + 0), .int t, .int c, .int b9, .ref (B + 47)])).length) Slot.unset).toArray = ls at hl ⊢
  have hl : lv_has ls 6 [(0, .ref (B + 0)), (1, .int t), (2, .int c), (3, .int b9), (4, .ref (B + 47))] := hl
  refine lv_aload hx hb dL_shift_0 (lv_at hl 4 rfl) ?_
  refine lv_iconst (v := nI 0) hx hb dL_shift_2 (by decide) ?_
  refine lv_aload_n hx hb dL_shift_3 rfl (lv_at hl 0 rfl) ?_
  refine lv_iload_n hx hb dL_shift_4 rfl (lv_at hl 1 rfl) ?_
  refine lv_iload_n hx hb dL_shift_5 rfl (lv_at hl 2 rfl) ?_
  refine lv_iload_n hx hb dL_shift_6 rfl (lv_at hl 3 rfl) ?_
  refine klx_cVi (C := RX4) (i := 0) (As := [.int t, .int c, .int b9]) (rest := [.int (nI 0), .ref (B + 47)]) ⟨hx, hb, hml, hown, hts⟩ (c_X4_shift l hst G B _ t c b9 k0 k1 k2 k3 k4 k6 k7 k8 k9 k10 k11 hnn hru hcn4) (cwV 3 hts gL_shift_X4_shift rfl rfl rfl (by decide +kernel) ⟨Nat.le_of_ble_eq_true rfl, Nat.le_of_ble_eq_true rfl⟩) hK hZ hP k0 rfl rfl hl.1 rfl (Nat.le_of_ble_eq_true rfl) dL_shift_7 ⟨Nat.le_of_ble_eq_true rfl, Nat.le_of_ble_eq_true rfl⟩ (fun E ce q9 w9 H locs hpx hP h9 hv9 hc9 => ?_) (fun r6  w4 H locs q5 hP => ?_)
  · have hE : E = "java/lang/IllegalArgumentException" ∨ E = "java/lang/IllegalStateException" := by rcases hpx with h | h <;> first | exact Or.inl h.1 | exact Or.inr (h.1)
    rcases hE with rfl | rfl
    · refine vx_catch (name := "java/lang/IllegalArgumentException") hown [] ⟨0, 12, 15, 13⟩ [⟨0, 12, 19, 21⟩] (htab.trans rfl) (fun _ h => absurd h List.not_mem_nil) (by decide) (by decide) (hts (.classLink RL 13 "java/lang/IllegalArgumentException") (by decide +kernel)) (va_Nw.use rfl (hK.2.1 ("java/lang/IllegalArgumentException", "java/lang/IllegalArgumentException") (by decide))) h9 hv9 hc9 ?_
      refine lv_astore (lv' := [(5, .ref q9), (0, .ref (B + 0)), (1, .int t), (2, .int c), (3, .int b9), (4, .ref (B + 47))]) hx hb dL_shift_15 hl (by decide) rfl (fun ls hl => ?_)
      refine lv_iconst (v := nI 1) hx hb dL_shift_17 (by decide) ?_
      refine W.widen (k := 2) (n := 12) (by omega) (by omega) ?_
      refine vx_ret ?_
      exact kl_iret hx hb hr hlocks hP (Or.inr ⟨_, hpx, Or.inl ⟨rfl, rfl⟩⟩) dL_shift_18
    · refine vx_catch (name := "java/lang/IllegalStateException") hown [⟨0, 12, 15, 13⟩] ⟨0, 12, 19, 21⟩ [] (htab.trans rfl) (List.forall_mem_cons.mpr ⟨Or.inr ⟨by decide, _, hts (.classLink RL 13 "java/lang/IllegalArgumentException") (by decide +kernel), hK.2.2.1 ("java/lang/IllegalStateException", "java/lang/IllegalArgumentException") (by decide)⟩, (fun _ h => absurd h List.not_mem_nil)⟩) (by decide) (by decide) (hts (.classLink RL 21 "java/lang/IllegalStateException") (by decide +kernel)) (va_Nw.use rfl (hK.2.1 ("java/lang/IllegalStateException", "java/lang/IllegalStateException") (by decide))) h9 hv9 hc9 ?_
      refine lv_astore (lv' := [(5, .ref q9), (0, .ref (B + 0)), (1, .int t), (2, .int c), (3, .int b9), (4, .ref (B + 47))]) hx hb dL_shift_19 hl (by decide) rfl (fun ls hl => ?_)
      refine lv_iconst (v := nI 2) hx hb dL_shift_21 (by decide) ?_
      refine W.widen (k := 2) (n := 12) (by omega) (by omega) ?_
      refine vx_ret ?_
      exact kl_iret hx hb hr hlocks hP (Or.inr ⟨_, hpx, Or.inr (⟨rfl, rfl⟩)⟩) dL_shift_22
  · have f7 : w4 47 = some (kl_aL G 1 ol) := by obtain ⟨-, -, q9, -, -, -, -, -, -, -, -, -, hfr⟩ := q5; exact (hfr 47 (by decide) (by decide) (by decide) (by decide) (by decide) (by decide)).trans k47
    refine lv_i2l hx hb dL_shift_10 rfl ?_
    refine kl_last hx hb hK hP f7 (by omega) (by omega) dL_shift_11 (fun w8 H locs f9 fr10 hzw8 hP => ?_)
    refine lv_goto (tgt := 23) hx hb dL_shift_12 (by decide) ?_
    refine lv_iconst (v := nI 0) hx hb dL_shift_23 (by decide) ?_
    refine W.widen (k := 2) (n := 12) (by omega) (by omega) ?_
    refine vx_ret ?_
    exact kl_iret hx hb hr hlocks hP (Or.inl ⟨rfl, _, _, _, q5, rfl, f9, fr10⟩) dL_shift_24

abbrev rm_L_keep : Room := { frames := 8, cells := 1, slots := 6, locals := 130 }
set_option maxHeartbeats 4000000 in
set_option maxRecDepth 100000 in
theorem c_L_keep (l : Launch) (hst : l.stackTraces = false) (G : kl_G) (B : Nat) (w : kl_M) {nT nW nM : Nat} {rs : Int32} {nL nS nC : Nat} {T C : Nat → Int32} {mT mC : Nat → Nat → Int32} {ol : Nat → Int64} (k0 : w 0 = some (.inr (4, [.ref (B + 1), .int (nI nT), .ref (B + 2), .int (nI nL), .ref (B + 3), .int (nI nS), .ref (B + 4), .int (nI nC), .ref (B + 5), .int (nI nW), .ref (B + 6), .ref (B + 9), .ref (B + 12), .int (nI nM), .ref (B + 13), .int rs]))) (k6 : w 6 = some (.inr (2, [.ref (B + 7), .ref (B + 8)]))) (k7 : w 7 = some (kl_aI G 24 T)) (k8 : w 8 = some (kl_aI G 96 C)) (k12 : w 12 = some (kl_aR G 6 4 ((fun j => some (B + (14 + 3 * j)))))) (k14 : w 14 = some (.inr (2, [.ref (B + 15), .ref (B + 16)]))) (k15 : w 15 = some (kl_aI G 24 ((mT 0)))) (k16 : w 16 = some (kl_aI G 96 ((mC 0)))) (k17 : w 17 = some (.inr (2, [.ref (B + 18), .ref (B + 19)]))) (k18 : w 18 = some (kl_aI G 24 ((mT 1)))) (k19 : w 19 = some (kl_aI G 96 ((mC 1)))) (k20 : w 20 = some (.inr (2, [.ref (B + 21), .ref (B + 22)]))) (k21 : w 21 = some (kl_aI G 24 ((mT 2)))) (k22 : w 22 = some (kl_aI G 96 ((mC 2)))) (k23 : w 23 = some (.inr (2, [.ref (B + 24), .ref (B + 25)]))) (k24 : w 24 = some (kl_aI G 24 ((mT 3)))) (k25 : w 25 = some (kl_aI G 96 ((mC 3)))) (k47 : w 47 = some (kl_aL G 1 ol)) (m9 : Nat) (hm9 : m9 = nM) (hn : nM ≤ 4) : vx_Met l yL_keep wsL_keep rm_L_keep (kl_Px G B w [.ref (B + 0), .ref (B + 47)]) (kl_Qi G B (fun r w1 => (r = nI 0 ∧ ∃ (v : Int32) (w2 : kl_M) (u : Int64), ((fun r w1 => nM < 4 ∧ r = nI (nM + 1) ∧ w1 (15 + 3 * nM) = some (kl_aI G 24 T) ∧ w1 (16 + 3 * nM) = some (kl_aI G 96 C) ∧ w1 0 = some (.inr (4, [.ref (B + 1), .int (nI nT), .ref (B + 2), .int (nI nL), .ref (B + 3), .int (nI nS), .ref (B + 4), .int (nI nC), .ref (B + 5), .int (nI nW), .ref (B + 6), .ref (B + 9), .ref (B + 12), .int (nI (nM + 1)), .ref (B + 13), .int rs])) ∧ ∀ j : Nat, j ≠ 0 → j ≠ 15 + 3 * nM → j ≠ 16 + 3 * nM → w1 j = w j) : Int32 → kl_M → Prop) v w2 ∧ u = v.toInt64 ∧ w1 47 = some (kl_aL G 1 (vp_updL ol 0 u)) ∧ ∀ j : Nat, j ≠ 47 → w1 j = w2 j) ∨ ∃ E : String, ((fun E w1 => (E = "java/util/NoSuchElementException" ∧ w1 = w ∧ ¬ nM < 4)) : String → kl_M → Prop) E w1 ∧ ((E = "java/util/NoSuchElementException" ∧ r = nI 1)))) (kl_X G B (fun E w1 => False)) 1 6 (kl_fr B) := by
  refine vx_ofWH (cc := cL_keep) (maxL := 3) (ret := (some .int)) (hh := [(0, 8, 11, 15)]) (by decide) rfl ?_
  intro pg e s m args below meth cd s₁ Bd hml hv
  obtain ⟨rfl, hP0, hK, hZ⟩ := hv
  have hx := Bd.exec
  have hb := Bd.bytes
  have hr := Bd.returns
  have hts := atoms_spec (ws := wsL_keep) Bd.pre
  have hown : s.vm.findClass RL = some m.cls := findClass_of_methodNamed Bd.named
  have hlocks := Bd.notSynchronized
  have htab := vx_table (x := yL_keep) Bd (hts (.codeWith yL_keep cL_keep 3 (some .int) [(0, 8, 11, 15)]) List.mem_cons_self)
  have hP := kl_S.rf hP0
  have hl := lv_entry ([.ref (B + 0), .ref (B + 47)]) (n := 3) (Nat.le_of_ble_eq_true rfl)
  rw [lg_entry_eq]
  generalize (lg_sl ([.ref (B + 0), .ref (B + 47)]) ++ List.replicate (3 - (lg_sl ([.ref (B + 0), .ref (B + 47)])).length) Slot.unset).toArray = ls at hl ⊢
  have hl : lv_has ls 3 [(0, .ref (B + 0)), (1, .ref (B + 47))] := hl
  refine lv_aload_n hx hb dL_keep_0 rfl (lv_at hl 1 rfl) ?_
  refine lv_iconst (v := nI 0) hx hb dL_keep_1 (by decide) ?_
  refine lv_aload_n hx hb dL_keep_2 rfl (lv_at hl 0 rfl) ?_
  refine klx_cVi (C := RX4) (i := 0) (As := []) (rest := [.int (nI 0), .ref (B + 47)]) ⟨hx, hb, hml, hown, hts⟩ (c_X4_keep l hst G B _  k0 k6 k7 k8 k12 k14 k15 k16 k17 k18 k19 k20 k21 k22 k23 k24 k25 m9 hm9 hn) (cwV 0 hts gL_keep_X4_keep rfl rfl rfl (by decide +kernel) ⟨Nat.le_of_ble_eq_true rfl, Nat.le_of_ble_eq_true rfl⟩) hK hZ hP k0 rfl rfl hl.1 rfl (Nat.le_of_ble_eq_true rfl) dL_keep_3 ⟨Nat.le_of_ble_eq_true rfl, Nat.le_of_ble_eq_true rfl⟩ (fun E ce q9 w9 H locs hpx hP h9 hv9 hc9 => ?_) (fun r6  w4 H locs q5 hP => ?_)
  · have hE : E = "java/util/NoSuchElementException" := hpx.1
    obtain rfl := hE
    refine vx_catch (name := "java/util/NoSuchElementException") hown [] ⟨0, 8, 11, 15⟩ [] (htab.trans rfl) (fun _ h => absurd h List.not_mem_nil) (by decide) (by decide) (hts (.classLink RL 15 "java/util/NoSuchElementException") (by decide +kernel)) (va_Nw.use rfl (hK.2.1 ("java/util/NoSuchElementException", "java/util/NoSuchElementException") (by decide))) h9 hv9 hc9 ?_
    refine lv_astore_n (lv' := [(2, .ref q9), (0, .ref (B + 0)), (1, .ref (B + 47))]) hx hb dL_keep_11 rfl hl (by decide) rfl (fun ls hl => ?_)
    refine lv_iconst (v := nI 1) hx hb dL_keep_12 (by decide) ?_
    refine W.widen (k := 1) (n := 6) (by omega) (by omega) ?_
    refine vx_ret ?_
    exact kl_iret hx hb hr hlocks hP (Or.inr ⟨_, hpx, ⟨rfl, rfl⟩⟩) dL_keep_13
  · have f7 : w4 47 = some (kl_aL G 1 ol) := by obtain ⟨hq, -, -, -, -, hfr⟩ := q5; exact (hfr 47 (by decide) (by omega) (by omega)).trans k47
    refine lv_i2l hx hb dL_keep_6 rfl ?_
    refine kl_last hx hb hK hP f7 (by omega) (by omega) dL_keep_7 (fun w8 H locs f9 fr10 hzw8 hP => ?_)
    refine lv_goto (tgt := 14) hx hb dL_keep_8 (by decide) ?_
    refine lv_iconst (v := nI 0) hx hb dL_keep_14 (by decide) ?_
    refine W.widen (k := 1) (n := 6) (by omega) (by omega) ?_
    refine vx_ret ?_
    exact kl_iret hx hb hr hlocks hP (Or.inl ⟨rfl, _, _, _, q5, rfl, f9, fr10⟩) dL_keep_15

abbrev rm_L_back : Room := { frames := 8, cells := 2, slots := 12, locals := 135 }
set_option maxHeartbeats 4000000 in
set_option maxRecDepth 100000 in
theorem c_L_back (l : Launch) (hst : l.stackTraces = false) (G : kl_G) (B : Nat) (w : kl_M) {nT nW nM : Nat} {rs : Int32} {nL nS nC : Nat} {lf sf cf : Nat → Option Nat} {la : Nat → Nat} {lch : Nat → Int32} {lco : Nat → Nat} {lpa lwy : Nat → Int32} {sa : Nat → Nat} {stb : Nat → Int32} {sco ca cwa cpa : Nat → Nat} {ctb : Nat → Int32} {cln : Nat → Nat} {cwd : Nat → Nat → Nat} {ccol : Nat → Nat} {T C : Nat → Int32} {mT mC : Nat → Nat → Int32} {ol : Nat → Int64} (k0 : w 0 = some (.inr (4, [.ref (B + 1), .int (nI nT), .ref (B + 2), .int (nI nL), .ref (B + 3), .int (nI nS), .ref (B + 4), .int (nI nC), .ref (B + 5), .int (nI nW), .ref (B + 6), .ref (B + 9), .ref (B + 12), .int (nI nM), .ref (B + 13), .int rs]))) (k2 : w 2 = some (kl_aR G 3 6 lf)) (k3 : w 3 = some (kl_aR G 4 4 sf)) (k4 : w 4 = some (kl_aR G 5 4 cf)) (k6 : w 6 = some (.inr (2, [.ref (B + 7), .ref (B + 8)]))) (k7 : w 7 = some (kl_aI G 24 T)) (k8 : w 8 = some (kl_aI G 96 C)) (k12 : w 12 = some (kl_aR G 6 4 ((fun j => some (B + (14 + 3 * j)))))) (k14 : w 14 = some (.inr (2, [.ref (B + 15), .ref (B + 16)]))) (k15 : w 15 = some (kl_aI G 24 ((mT 0)))) (k16 : w 16 = some (kl_aI G 96 ((mC 0)))) (k17 : w 17 = some (.inr (2, [.ref (B + 18), .ref (B + 19)]))) (k18 : w 18 = some (kl_aI G 24 ((mT 1)))) (k19 : w 19 = some (kl_aI G 96 ((mC 1)))) (k20 : w 20 = some (.inr (2, [.ref (B + 21), .ref (B + 22)]))) (k21 : w 21 = some (kl_aI G 24 ((mT 2)))) (k22 : w 22 = some (kl_aI G 96 ((mC 2)))) (k23 : w 23 = some (.inr (2, [.ref (B + 24), .ref (B + 25)]))) (k24 : w 24 = some (kl_aI G 24 ((mT 3)))) (k25 : w 25 = some (kl_aI G 96 ((mC 3)))) (k47 : w 47 = some (kl_aL G 1 ol)) (hnn : nT ≤ 4 ∧ nL ≤ 6 ∧ nS ≤ 4 ∧ nC ≤ 4 ∧ nW ≤ 10 ∧ nM ≤ 4) (hru : kl_RU G B w nL lf la lch lco lpa lwy nS sf sa stb sco nC cf ca cwa cpa ctb cln cwd ccol) : vx_Met l yL_back wsL_back rm_L_back (kl_Px G B w [.ref (B + 0), .ref (B + 47)]) (kl_Qi G B (fun r w1 => (r = nI 0 ∧ ∃ (v : Int32) (w2 : kl_M) (u : Int64), ((fun r w1 => ∃ m, nM = m + 1 ∧ mt_why (mT m) (mC m) nT nS stb sco nL lch lco lpa nC ctb cwd cln (nI 0) ∧ r = nI m ∧ w1 0 = some (.inr (4, [.ref (B + 1), .int (nI nT), .ref (B + 2), .int (nI nL), .ref (B + 3), .int (nI nS), .ref (B + 4), .int (nI nC), .ref (B + 5), .int (nI nW), .ref (B + 6), .ref (B + 9), .ref (B + 12), .int (nI m), .ref (B + 13), .int rs])) ∧ kl_RU G B w1 nL lf la lch lco lpa lwy nS sf sa stb sco nC cf ca cwa cpa ctb cln cwd ccol ∧ w1 7 = some (kl_aI G 24 (mT m)) ∧ w1 8 = some (kl_aI G 96 (mC m)) ∧ ∀ j : Nat, j < 48 → j ≠ 0 → j ≠ 7 → j ≠ 8 → w1 j = w j) : Int32 → kl_M → Prop) v w2 ∧ u = v.toInt64 ∧ w1 47 = some (kl_aL G 1 (vp_updL ol 0 u)) ∧ ∀ j : Nat, j ≠ 47 → w1 j = w2 j) ∨ ∃ E : String, ((fun E w1 => (E = "java/util/NoSuchElementException" ∧ w1 = w ∧ nM = 0) ∨ (E = "java/lang/IllegalStateException" ∧ ∃ m r, nM = m + 1 ∧ r ≠ 0 ∧ mt_why (mT m) (mC m) nT nS stb sco nL lch lco lpa nC ctb cwd cln r ∧ w1 0 = some (.inr (4, [.ref (B + 1), .int (nI nT), .ref (B + 2), .int (nI nL), .ref (B + 3), .int (nI nS), .ref (B + 4), .int (nI nC), .ref (B + 5), .int (nI nW), .ref (B + 6), .ref (B + 9), .ref (B + 12), .int (nI nM), .ref (B + 13), .int r])) ∧ kl_RU G B w1 nL lf la lch lco lpa lwy nS sf sa stb sco nC cf ca cwa cpa ctb cln cwd ccol ∧ w1 7 = some (kl_aI G 24 T) ∧ w1 8 = some (kl_aI G 96 C) ∧ ∀ j : Nat, j < 48 → j ≠ 0 → j ≠ 7 → j ≠ 8 → w1 j = w j)) : String → kl_M → Prop) E w1 ∧ ((E = "java/util/NoSuchElementException" ∧ r = nI 1) ∨ (E = "java/lang/IllegalStateException" ∧ r = nI 2)))) (kl_X G B (fun E w1 => False)) 2 12 (kl_fr B) := by
  refine vx_ofWH (cc := cL_back) (maxL := 3) (ret := (some .int)) (hh := [(0, 8, 11, 15), (0, 8, 14, 21)]) (by decide) rfl ?_
  intro pg e s m args below meth cd s₁ Bd hml hv
  obtain ⟨rfl, hP0, hK, hZ⟩ := hv
  have hx := Bd.exec
  have hb := Bd.bytes
  have hr := Bd.returns
  have hts := atoms_spec (ws := wsL_back) Bd.pre
  have hown : s.vm.findClass RL = some m.cls := findClass_of_methodNamed Bd.named
  have hlocks := Bd.notSynchronized
  have htab := vx_table (x := yL_back) Bd (hts (.codeWith yL_back cL_back 3 (some .int) [(0, 8, 11, 15), (0, 8, 14, 21)]) List.mem_cons_self)
  have hP := kl_S.rf hP0
  have hl := lv_entry ([.ref (B + 0), .ref (B + 47)]) (n := 3) (Nat.le_of_ble_eq_true rfl)
  rw [lg_entry_eq]
  generalize (lg_sl ([.ref (B + 0), .ref (B + 47)]) ++ List.replicate (3 - (lg_sl ([.ref (B + 0), .ref (B + 47)])).length) Slot.unset).toArray = ls at hl ⊢
  have hl : lv_has ls 3 [(0, .ref (B + 0)), (1, .ref (B + 47))] := hl
  refine lv_aload_n hx hb dL_back_0 rfl (lv_at hl 1 rfl) ?_
  refine lv_iconst (v := nI 0) hx hb dL_back_1 (by decide) ?_
  refine lv_aload_n hx hb dL_back_2 rfl (lv_at hl 0 rfl) ?_
  refine klx_cVi (C := RX4) (i := 0) (As := []) (rest := [.int (nI 0), .ref (B + 47)]) ⟨hx, hb, hml, hown, hts⟩ (c_X4_back l hst G B _  k0 k2 k3 k4 k6 k7 k8 k12 k14 k15 k16 k17 k18 k19 k20 k21 k22 k23 k24 k25 hnn hru) (cwV 0 hts gL_back_X4_back rfl rfl rfl (by decide +kernel) ⟨Nat.le_of_ble_eq_true rfl, Nat.le_of_ble_eq_true rfl⟩) hK hZ hP k0 rfl rfl hl.1 rfl (Nat.le_of_ble_eq_true rfl) dL_back_3 ⟨Nat.le_of_ble_eq_true rfl, Nat.le_of_ble_eq_true rfl⟩ (fun E ce q9 w9 H locs hpx hP h9 hv9 hc9 => ?_) (fun r6  w4 H locs q5 hP => ?_)
  · have hE : E = "java/util/NoSuchElementException" ∨ E = "java/lang/IllegalStateException" := by rcases hpx with h | h <;> first | exact Or.inl h.1 | exact Or.inr (h.1)
    rcases hE with rfl | rfl
    · refine vx_catch (name := "java/util/NoSuchElementException") hown [] ⟨0, 8, 11, 15⟩ [⟨0, 8, 14, 21⟩] (htab.trans rfl) (fun _ h => absurd h List.not_mem_nil) (by decide) (by decide) (hts (.classLink RL 15 "java/util/NoSuchElementException") (by decide +kernel)) (va_Nw.use rfl (hK.2.1 ("java/util/NoSuchElementException", "java/util/NoSuchElementException") (by decide))) h9 hv9 hc9 ?_
      refine lv_astore_n (lv' := [(2, .ref q9), (0, .ref (B + 0)), (1, .ref (B + 47))]) hx hb dL_back_11 rfl hl (by decide) rfl (fun ls hl => ?_)
      refine lv_iconst (v := nI 1) hx hb dL_back_12 (by decide) ?_
      refine W.widen (k := 2) (n := 12) (by omega) (by omega) ?_
      refine vx_ret ?_
      exact kl_iret hx hb hr hlocks hP (Or.inr ⟨_, hpx, Or.inl ⟨rfl, rfl⟩⟩) dL_back_13
    · refine vx_catch (name := "java/lang/IllegalStateException") hown [⟨0, 8, 11, 15⟩] ⟨0, 8, 14, 21⟩ [] (htab.trans rfl) (List.forall_mem_cons.mpr ⟨Or.inr ⟨by decide, _, hts (.classLink RL 15 "java/util/NoSuchElementException") (by decide +kernel), hK.2.2.1 ("java/lang/IllegalStateException", "java/util/NoSuchElementException") (by decide)⟩, (fun _ h => absurd h List.not_mem_nil)⟩) (by decide) (by decide) (hts (.classLink RL 21 "java/lang/IllegalStateException") (by decide +kernel)) (va_Nw.use rfl (hK.2.1 ("java/lang/IllegalStateException", "java/lang/IllegalStateException") (by decide))) h9 hv9 hc9 ?_
      refine lv_astore_n (lv' := [(2, .ref q9), (0, .ref (B + 0)), (1, .ref (B + 47))]) hx hb dL_back_14 rfl hl (by decide) rfl (fun ls hl => ?_)
      refine lv_iconst (v := nI 2) hx hb dL_back_15 (by decide) ?_
      refine W.widen (k := 2) (n := 12) (by omega) (by omega) ?_
      refine vx_ret ?_
      exact kl_iret hx hb hr hlocks hP (Or.inr ⟨_, hpx, Or.inr (⟨rfl, rfl⟩)⟩) dL_back_16
  · have f7 : w4 47 = some (kl_aL G 1 ol) := by obtain ⟨m9, -, -, -, -, -, -, -, hfr⟩ := q5; exact (hfr 47 (by decide) (by decide) (by decide) (by decide)).trans k47
    refine lv_i2l hx hb dL_back_6 rfl ?_
    refine kl_last hx hb hK hP f7 (by omega) (by omega) dL_back_7 (fun w8 H locs f9 fr10 hzw8 hP => ?_)
    refine lv_goto (tgt := 17) hx hb dL_back_8 (by decide) ?_
    refine lv_iconst (v := nI 0) hx hb dL_back_17 (by decide) ?_
    refine W.widen (k := 2) (n := 12) (by omega) (by omega) ?_
    refine vx_ret ?_
    exact kl_iret hx hb hr hlocks hP (Or.inl ⟨rfl, _, _, _, q5, rfl, f9, fr10⟩) dL_back_18

abbrev rm_L_has : Room := { frames := 8, cells := 1, slots := 6, locals := 132 }
set_option maxHeartbeats 4000000 in
set_option maxRecDepth 100000 in
theorem c_L_has (l : Launch) (hst : l.stackTraces = false) (G : kl_G) (B : Nat) (w : kl_M) {nT nW nM : Nat} {rs : Int32} {nL nS nC : Nat} {T C : Nat → Int32} (t k : Int32) {ol : Nat → Int64} (k0 : w 0 = some (.inr (4, [.ref (B + 1), .int (nI nT), .ref (B + 2), .int (nI nL), .ref (B + 3), .int (nI nS), .ref (B + 4), .int (nI nC), .ref (B + 5), .int (nI nW), .ref (B + 6), .ref (B + 9), .ref (B + 12), .int (nI nM), .ref (B + 13), .int rs]))) (k6 : w 6 = some (.inr (2, [.ref (B + 7), .ref (B + 8)]))) (k7 : w 7 = some (kl_aI G 24 T)) (k8 : w 8 = some (kl_aI G 96 C)) (k47 : w 47 = some (kl_aL G 1 ol)) (hn : nT ≤ 4) : vx_Met l yL_has wsL_has rm_L_has (kl_Px G B w [.ref (B + 0), .int t, .int k, .ref (B + 47)]) (kl_Qi G B (fun r w1 => (r = nI 0 ∧ ∃ (v : Int32) (w2 : kl_M) (u : Int64), ((fun r w1 => w = w1 ∧ mt_tab t nT ∧ kl_b r (mt_has T C t k)) : Int32 → kl_M → Prop) v w2 ∧ ((v = 0 ∧ u = 0) ∨ (v ≠ 0 ∧ u = 1)) ∧ w1 47 = some (kl_aL G 1 (vp_updL ol 0 u)) ∧ ∀ j : Nat, j ≠ 47 → w1 j = w2 j) ∨ ∃ E : String, ((fun E w1 => (E = "java/lang/IllegalArgumentException" ∧ w1 = w ∧ ¬ mt_tab t nT)) : String → kl_M → Prop) E w1 ∧ ((E = "java/lang/IllegalArgumentException" ∧ r = nI 1)))) (kl_X G B (fun E w1 => False)) 1 6 (kl_fr B) := by
  refine vx_ofWH (cc := cL_has) (maxL := 5) (ret := (some .int)) (hh := [(0, 17, 20, 13)]) (by decide) rfl ?_
  intro pg e s m args below meth cd s₁ Bd hml hv
  obtain ⟨rfl, hP0, hK, hZ⟩ := hv
  have hx := Bd.exec
  have hb := Bd.bytes
  have hr := Bd.returns
  have hts := atoms_spec (ws := wsL_has) Bd.pre
  have hown : s.vm.findClass RL = some m.cls := findClass_of_methodNamed Bd.named
  have hlocks := Bd.notSynchronized
  have htab := vx_table (x := yL_has) Bd (hts (.codeWith yL_has cL_has 5 (some .int) [(0, 17, 20, 13)]) List.mem_cons_self)
  have hP := kl_S.rf hP0
  have hl := lv_entry ([.ref (B + 0), .int t, .int k, .ref (B + 47)]) (n := 5) (Nat.le_of_ble_eq_true rfl)
  rw [lg_entry_eq]
  generalize (lg_sl ([.ref (B + 0), .int t, .int k, .ref (B + 47)]) ++ List.replicate (5 - (lg_sl ([.ref (B + 0), .int t, .int k, .ref (B + 47)])).length) Slot.unset).toArray = ls at hl ⊢
  have hl : lv_has ls 5 [(0, .ref (B + 0)), (1, .int t), (2, .int k), (3, .ref (B + 47))] := hl
  refine lv_aload_n hx hb dL_has_0 rfl (lv_at hl 3 rfl) ?_
  refine lv_iconst (v := nI 0) hx hb dL_has_1 (by decide) ?_
  refine lv_aload_n hx hb dL_has_2 rfl (lv_at hl 0 rfl) ?_
  refine lv_iload_n hx hb dL_has_3 rfl (lv_at hl 1 rfl) ?_
  refine lv_iload_n hx hb dL_has_4 rfl (lv_at hl 2 rfl) ?_
  refine klx_cVi (C := RX4) (i := 0) (As := [.int t, .int k]) (rest := [.int (nI 0), .ref (B + 47)]) ⟨hx, hb, hml, hown, hts⟩ (c_X4_has l hst G B _ t k k0 k6 k7 k8 hn) (cwV 2 hts gL_has_X4_has rfl rfl rfl (by decide +kernel) ⟨Nat.le_of_ble_eq_true rfl, Nat.le_of_ble_eq_true rfl⟩) hK hZ hP k0 rfl rfl hl.1 rfl (Nat.le_of_ble_eq_true rfl) dL_has_5 ⟨Nat.le_of_ble_eq_true rfl, Nat.le_of_ble_eq_true rfl⟩ (fun E ce q9 w9 H locs hpx hP h9 hv9 hc9 => ?_) (fun r6  w4 H locs q5 hP => ?_)
  · have hE : E = "java/lang/IllegalArgumentException" := hpx.1
    obtain rfl := hE
    refine vx_catch (name := "java/lang/IllegalArgumentException") hown [] ⟨0, 17, 20, 13⟩ [] (htab.trans rfl) (fun _ h => absurd h List.not_mem_nil) (by decide) (by decide) (hts (.classLink RL 13 "java/lang/IllegalArgumentException") (by decide +kernel)) (va_Nw.use rfl (hK.2.1 ("java/lang/IllegalArgumentException", "java/lang/IllegalArgumentException") (by decide))) h9 hv9 hc9 ?_
    refine lv_astore (lv' := [(4, .ref q9), (0, .ref (B + 0)), (1, .int t), (2, .int k), (3, .ref (B + 47))]) hx hb dL_has_20 hl (by decide) rfl (fun ls hl => ?_)
    refine lv_iconst (v := nI 1) hx hb dL_has_22 (by decide) ?_
    refine W.widen (k := 1) (n := 6) (by omega) (by omega) ?_
    refine vx_ret ?_
    exact kl_iret hx hb hr hlocks hP (Or.inr ⟨_, hpx, ⟨rfl, rfl⟩⟩) dL_has_23
  · have f7 : w4 47 = some (kl_aL G 1 ol) := by obtain ⟨hfr, -⟩ := q5; exact (congrFun hfr.symm 47).trans k47
    refine lv_if_eq (tgt := 15) hx hb dL_has_8 (by decide) (fun c8 => ?_) (fun c8 => ?_)
    · refine lv_lconst (v := 0) hx hb dL_has_15 rfl ?_
      refine kl_last hx hb hK hP f7 (by omega) (by omega) dL_has_16 (fun w8 H locs f9 fr10 hzw8 hP => ?_)
      refine lv_goto (tgt := 24) hx hb dL_has_17 (by decide) ?_
      refine lv_iconst (v := nI 0) hx hb dL_has_24 (by decide) ?_
      refine W.widen (k := 1) (n := 6) (by omega) (by omega) ?_
      refine vx_ret ?_
      exact kl_iret hx hb hr hlocks hP (Or.inl ⟨rfl, _, _, _, q5, Or.inl ⟨c8, rfl⟩, f9, fr10⟩) dL_has_25
    · refine lv_lconst (v := 1) hx hb dL_has_11 rfl ?_
      refine lv_goto (tgt := 16) hx hb dL_has_12 (by decide) ?_
      refine kl_last hx hb hK hP f7 (by omega) (by omega) dL_has_16 (fun w11 H locs f12 fr13 hzw11 hP => ?_)
      refine lv_goto (tgt := 24) hx hb dL_has_17 (by decide) ?_
      refine lv_iconst (v := nI 0) hx hb dL_has_24 (by decide) ?_
      refine W.widen (k := 1) (n := 6) (by omega) (by omega) ?_
      refine vx_ret ?_
      exact kl_iret hx hb hr hlocks hP (Or.inl ⟨rfl, _, _, _, q5, Or.inr ⟨c8, rfl⟩, f12, fr13⟩) dL_has_25

abbrev rm_L_cell : Room := { frames := 8, cells := 2, slots := 12, locals := 134 }
set_option maxHeartbeats 4000000 in
set_option maxRecDepth 100000 in
theorem c_L_cell (l : Launch) (hst : l.stackTraces = false) (G : kl_G) (B : Nat) (w : kl_M) {nT nW nM : Nat} {rs : Int32} {nL nS nC : Nat} {cn : Nat → Nat} {T C : Nat → Int32} (t k c : Int32) {ol : Nat → Int64} (k0 : w 0 = some (.inr (4, [.ref (B + 1), .int (nI nT), .ref (B + 2), .int (nI nL), .ref (B + 3), .int (nI nS), .ref (B + 4), .int (nI nC), .ref (B + 5), .int (nI nW), .ref (B + 6), .ref (B + 9), .ref (B + 12), .int (nI nM), .ref (B + 13), .int rs]))) (k1 : w 1 = some (kl_aI G 4 ((fun t => nI (cn t))))) (k6 : w 6 = some (.inr (2, [.ref (B + 7), .ref (B + 8)]))) (k7 : w 7 = some (kl_aI G 24 T)) (k8 : w 8 = some (kl_aI G 96 C)) (k47 : w 47 = some (kl_aL G 1 ol)) (hn : nT ≤ 4) (hcn4 : ∀ j, j < nT → cn j ≤ 4) : vx_Met l yL_cell wsL_cell rm_L_cell (kl_Px G B w [.ref (B + 0), .int t, .int k, .int c, .ref (B + 47)]) (kl_Qi G B (fun r w1 => (r = nI 0 ∧ ∃ (v : Int32) (w2 : kl_M) (u : Int64), ((fun r w1 => w = w1 ∧ mt_col t c nT cn ∧ ∃ p q, p < 24 ∧ T p = t ∧ C (4 * p) = k ∧ q < 4 ∧ c = nI q ∧ r = C (4 * p + q)) : Int32 → kl_M → Prop) v w2 ∧ u = v.toInt64 ∧ w1 47 = some (kl_aL G 1 (vp_updL ol 0 u)) ∧ ∀ j : Nat, j ≠ 47 → w1 j = w2 j) ∨ ∃ E : String, ((fun E w1 => (E = "java/lang/IllegalArgumentException" ∧ w1 = w ∧ ¬ mt_col t c nT cn) ∨ (E = "java/util/NoSuchElementException" ∧ w1 = w ∧ mt_col t c nT cn ∧ ¬ mt_has T C t k)) : String → kl_M → Prop) E w1 ∧ ((E = "java/lang/IllegalArgumentException" ∧ r = nI 1) ∨ (E = "java/util/NoSuchElementException" ∧ r = nI 2)))) (kl_X G B (fun E w1 => False)) 2 12 (kl_fr B) := by
  refine vx_ofWH (cc := cL_cell) (maxL := 6) (ret := (some .int)) (hh := [(0, 12, 15, 13), (0, 12, 19, 15)]) (by decide) rfl ?_
  intro pg e s m args below meth cd s₁ Bd hml hv
  obtain ⟨rfl, hP0, hK, hZ⟩ := hv
  have hx := Bd.exec
  have hb := Bd.bytes
  have hr := Bd.returns
  have hts := atoms_spec (ws := wsL_cell) Bd.pre
  have hown : s.vm.findClass RL = some m.cls := findClass_of_methodNamed Bd.named
  have hlocks := Bd.notSynchronized
  have htab := vx_table (x := yL_cell) Bd (hts (.codeWith yL_cell cL_cell 6 (some .int) [(0, 12, 15, 13), (0, 12, 19, 15)]) List.mem_cons_self)
  have hP := kl_S.rf hP0
  have hl := lv_entry ([.ref (B + 0), .int t, .int k, .int c, .ref (B + 47)]) (n := 6) (Nat.le_of_ble_eq_true rfl)
  rw [lg_entry_eq]
  generalize (lg_sl ([.ref (B + 0), .int t, .int k, .int c, .ref (B + 47)]) ++ List.replicate (6 - (lg_sl ([.ref (B + 0), .int t, .int k, .int c, .ref (B + 47)])).length) Slot.unset).toArray = ls at hl ⊢
  have hl : lv_has ls 6 [(0, .ref (B + 0)), (1, .int t), (2, .int k), (3, .int c), (4, .ref (B + 47))] := hl
  refine lv_aload hx hb dL_cell_0 (lv_at hl 4 rfl) ?_
  refine lv_iconst (v := nI 0) hx hb dL_cell_2 (by decide) ?_
  refine lv_aload_n hx hb dL_cell_3 rfl (lv_at hl 0 rfl) ?_
  refine lv_iload_n hx hb dL_cell_4 rfl (lv_at hl 1 rfl) ?_
  refine lv_iload_n hx hb dL_cell_5 rfl (lv_at hl 2 rfl) ?_
  refine lv_iload_n hx hb dL_cell_6 rfl (lv_at hl 3 rfl) ?_
  refine klx_cVi (C := RX4) (i := 0) (As := [.int t, .int k, .int c]) (rest := [.int (nI 0), .ref (B + 47)]) ⟨hx, hb, hml, hown, hts⟩ (c_X4_cell l hst G B _ t k c k0 k1 k6 k7 k8 hn hcn4) (cwV 3 hts gL_cell_X4_cell rfl rfl rfl (by decide +kernel) ⟨Nat.le_of_ble_eq_true rfl, Nat.le_of_ble_eq_true rfl⟩) hK hZ hP k0 rfl rfl hl.1 rfl (Nat.le_of_ble_eq_true rfl) dL_cell_7 ⟨Nat.le_of_ble_eq_true rfl, Nat.le_of_ble_eq_true rfl⟩ (fun E ce q9 w9 H locs hpx hP h9 hv9 hc9 => ?_) (fun r6  w4 H locs q5 hP => ?_)
  · have hE : E = "java/lang/IllegalArgumentException" ∨ E = "java/util/NoSuchElementException" := by rcases hpx with h | h <;> first | exact Or.inl h.1 | exact Or.inr (h.1)
    rcases hE with rfl | rfl
    · refine vx_catch (name := "java/lang/IllegalArgumentException") hown [] ⟨0, 12, 15, 13⟩ [⟨0, 12, 19, 15⟩] (htab.trans rfl) (fun _ h => absurd h List.not_mem_nil) (by decide) (by decide) (hts (.classLink RL 13 "java/lang/IllegalArgumentException") (by decide +kernel)) (va_Nw.use rfl (hK.2.1 ("java/lang/IllegalArgumentException", "java/lang/IllegalArgumentException") (by decide))) h9 hv9 hc9 ?_
      refine lv_astore (lv' := [(5, .ref q9), (0, .ref (B + 0)), (1, .int t), (2, .int k), (3, .int c), (4, .ref (B + 47))]) hx hb dL_cell_15 hl (by decide) rfl (fun ls hl => ?_)
      refine lv_iconst (v := nI 1) hx hb dL_cell_17 (by decide) ?_
      refine W.widen (k := 2) (n := 12) (by omega) (by omega) ?_
      refine vx_ret ?_
      exact kl_iret hx hb hr hlocks hP (Or.inr ⟨_, hpx, Or.inl ⟨rfl, rfl⟩⟩) dL_cell_18
    · refine vx_catch (name := "java/util/NoSuchElementException") hown [⟨0, 12, 15, 13⟩] ⟨0, 12, 19, 15⟩ [] (htab.trans rfl) (List.forall_mem_cons.mpr ⟨Or.inr ⟨by decide, _, hts (.classLink RL 13 "java/lang/IllegalArgumentException") (by decide +kernel), hK.2.2.1 ("java/util/NoSuchElementException", "java/lang/IllegalArgumentException") (by decide)⟩, (fun _ h => absurd h List.not_mem_nil)⟩) (by decide) (by decide) (hts (.classLink RL 15 "java/util/NoSuchElementException") (by decide +kernel)) (va_Nw.use rfl (hK.2.1 ("java/util/NoSuchElementException", "java/util/NoSuchElementException") (by decide))) h9 hv9 hc9 ?_
      refine lv_astore (lv' := [(5, .ref q9), (0, .ref (B + 0)), (1, .int t), (2, .int k), (3, .int c), (4, .ref (B + 47))]) hx hb dL_cell_19 hl (by decide) rfl (fun ls hl => ?_)
      refine lv_iconst (v := nI 2) hx hb dL_cell_21 (by decide) ?_
      refine W.widen (k := 2) (n := 12) (by omega) (by omega) ?_
      refine vx_ret ?_
      exact kl_iret hx hb hr hlocks hP (Or.inr ⟨_, hpx, Or.inr (⟨rfl, rfl⟩)⟩) dL_cell_22
  · have f7 : w4 47 = some (kl_aL G 1 ol) := by obtain ⟨hfr, -⟩ := q5; exact (congrFun hfr.symm 47).trans k47
    refine lv_i2l hx hb dL_cell_10 rfl ?_
    refine kl_last hx hb hK hP f7 (by omega) (by omega) dL_cell_11 (fun w8 H locs f9 fr10 hzw8 hP => ?_)
    refine lv_goto (tgt := 23) hx hb dL_cell_12 (by decide) ?_
    refine lv_iconst (v := nI 0) hx hb dL_cell_23 (by decide) ?_
    refine W.widen (k := 2) (n := 12) (by omega) (by omega) ?_
    refine vx_ret ?_
    exact kl_iret hx hb hr hlocks hP (Or.inl ⟨rfl, _, _, _, q5, rfl, f9, fr10⟩) dL_cell_24

abbrev rm_L_key : Room := { frames := 8, cells := 2, slots := 12, locals := 133 }
set_option maxHeartbeats 4000000 in
set_option maxRecDepth 100000 in
theorem c_L_key (l : Launch) (hst : l.stackTraces = false) (G : kl_G) (B : Nat) (w : kl_M) {nT nW nM : Nat} {rs : Int32} {nL nS nC : Nat} {T C : Nat → Int32} (t k : Int32) {ol : Nat → Int64} (k0 : w 0 = some (.inr (4, [.ref (B + 1), .int (nI nT), .ref (B + 2), .int (nI nL), .ref (B + 3), .int (nI nS), .ref (B + 4), .int (nI nC), .ref (B + 5), .int (nI nW), .ref (B + 6), .ref (B + 9), .ref (B + 12), .int (nI nM), .ref (B + 13), .int rs]))) (k6 : w 6 = some (.inr (2, [.ref (B + 7), .ref (B + 8)]))) (k7 : w 7 = some (kl_aI G 24 T)) (k8 : w 8 = some (kl_aI G 96 C)) (k47 : w 47 = some (kl_aL G 1 ol)) (hn : nT ≤ 4) : vx_Met l yL_key wsL_key rm_L_key (kl_Px G B w [.ref (B + 0), .int t, .int k, .ref (B + 47)]) (kl_Qi G B (fun r w1 => (r = nI 0 ∧ ∃ (v : Int32) (w2 : kl_M) (u : Int64), ((fun r w1 => w = w1 ∧ mt_tab t nT ∧ ∃ p, p < 24 ∧ T p = t ∧ nI (mt_less T C t (C (4 * p))) = k ∧ r = C (4 * p)) : Int32 → kl_M → Prop) v w2 ∧ u = v.toInt64 ∧ w1 47 = some (kl_aL G 1 (vp_updL ol 0 u)) ∧ ∀ j : Nat, j ≠ 47 → w1 j = w2 j) ∨ ∃ E : String, ((fun E w1 => (E = "java/lang/IllegalArgumentException" ∧ w1 = w ∧ ¬ mt_tab t nT) ∨ (E = "java/lang/IndexOutOfBoundsException" ∧ w1 = w ∧ mt_tab t nT ∧ ∀ p, p < 24 → ¬ (T p = t ∧ nI (mt_less T C t (C (4 * p))) = k))) : String → kl_M → Prop) E w1 ∧ ((E = "java/lang/IllegalArgumentException" ∧ r = nI 1) ∨ (E = "java/lang/IndexOutOfBoundsException" ∧ r = nI 2)))) (kl_X G B (fun E w1 => False)) 2 12 (kl_fr B) := by
  refine vx_ofWH (cc := cL_key) (maxL := 5) (ret := (some .int)) (hh := [(0, 10, 13, 13), (0, 10, 17, 64)]) (by decide) rfl ?_
  intro pg e s m args below meth cd s₁ Bd hml hv
  obtain ⟨rfl, hP0, hK, hZ⟩ := hv
  have hx := Bd.exec
  have hb := Bd.bytes
  have hr := Bd.returns
  have hts := atoms_spec (ws := wsL_key) Bd.pre
  have hown : s.vm.findClass RL = some m.cls := findClass_of_methodNamed Bd.named
  have hlocks := Bd.notSynchronized
  have htab := vx_table (x := yL_key) Bd (hts (.codeWith yL_key cL_key 5 (some .int) [(0, 10, 13, 13), (0, 10, 17, 64)]) List.mem_cons_self)
  have hP := kl_S.rf hP0
  have hl := lv_entry ([.ref (B + 0), .int t, .int k, .ref (B + 47)]) (n := 5) (Nat.le_of_ble_eq_true rfl)
  rw [lg_entry_eq]
  generalize (lg_sl ([.ref (B + 0), .int t, .int k, .ref (B + 47)]) ++ List.replicate (5 - (lg_sl ([.ref (B + 0), .int t, .int k, .ref (B + 47)])).length) Slot.unset).toArray = ls at hl ⊢
  have hl : lv_has ls 5 [(0, .ref (B + 0)), (1, .int t), (2, .int k), (3, .ref (B + 47))] := hl
  refine lv_aload_n hx hb dL_key_0 rfl (lv_at hl 3 rfl) ?_
  refine lv_iconst (v := nI 0) hx hb dL_key_1 (by decide) ?_
  refine lv_aload_n hx hb dL_key_2 rfl (lv_at hl 0 rfl) ?_
  refine lv_iload_n hx hb dL_key_3 rfl (lv_at hl 1 rfl) ?_
  refine lv_iload_n hx hb dL_key_4 rfl (lv_at hl 2 rfl) ?_
  refine klx_cVi (C := RX4) (i := 0) (As := [.int t, .int k]) (rest := [.int (nI 0), .ref (B + 47)]) ⟨hx, hb, hml, hown, hts⟩ (c_X4_key l hst G B _ t k k0 k6 k7 k8 hn) (cwV 2 hts gL_key_X4_key rfl rfl rfl (by decide +kernel) ⟨Nat.le_of_ble_eq_true rfl, Nat.le_of_ble_eq_true rfl⟩) hK hZ hP k0 rfl rfl hl.1 rfl (Nat.le_of_ble_eq_true rfl) dL_key_5 ⟨Nat.le_of_ble_eq_true rfl, Nat.le_of_ble_eq_true rfl⟩ (fun E ce q9 w9 H locs hpx hP h9 hv9 hc9 => ?_) (fun r6  w4 H locs q5 hP => ?_)
  · have hE : E = "java/lang/IllegalArgumentException" ∨ E = "java/lang/IndexOutOfBoundsException" := by rcases hpx with h | h <;> first | exact Or.inl h.1 | exact Or.inr (h.1)
    rcases hE with rfl | rfl
    · refine vx_catch (name := "java/lang/IllegalArgumentException") hown [] ⟨0, 10, 13, 13⟩ [⟨0, 10, 17, 64⟩] (htab.trans rfl) (fun _ h => absurd h List.not_mem_nil) (by decide) (by decide) (hts (.classLink RL 13 "java/lang/IllegalArgumentException") (by decide +kernel)) (va_Nw.use rfl (hK.2.1 ("java/lang/IllegalArgumentException", "java/lang/IllegalArgumentException") (by decide))) h9 hv9 hc9 ?_
      refine lv_astore (lv' := [(4, .ref q9), (0, .ref (B + 0)), (1, .int t), (2, .int k), (3, .ref (B + 47))]) hx hb dL_key_13 hl (by decide) rfl (fun ls hl => ?_)
      refine lv_iconst (v := nI 1) hx hb dL_key_15 (by decide) ?_
      refine W.widen (k := 2) (n := 12) (by omega) (by omega) ?_
      refine vx_ret ?_
      exact kl_iret hx hb hr hlocks hP (Or.inr ⟨_, hpx, Or.inl ⟨rfl, rfl⟩⟩) dL_key_16
    · refine vx_catch (name := "java/lang/IndexOutOfBoundsException") hown [⟨0, 10, 13, 13⟩] ⟨0, 10, 17, 64⟩ [] (htab.trans rfl) (List.forall_mem_cons.mpr ⟨Or.inr ⟨by decide, _, hts (.classLink RL 13 "java/lang/IllegalArgumentException") (by decide +kernel), hK.2.2.1 ("java/lang/IndexOutOfBoundsException", "java/lang/IllegalArgumentException") (by decide)⟩, (fun _ h => absurd h List.not_mem_nil)⟩) (by decide) (by decide) (hts (.classLink RL 64 "java/lang/IndexOutOfBoundsException") (by decide +kernel)) (va_Nw.use rfl (hK.2.1 ("java/lang/IndexOutOfBoundsException", "java/lang/IndexOutOfBoundsException") (by decide))) h9 hv9 hc9 ?_
      refine lv_astore (lv' := [(4, .ref q9), (0, .ref (B + 0)), (1, .int t), (2, .int k), (3, .ref (B + 47))]) hx hb dL_key_17 hl (by decide) rfl (fun ls hl => ?_)
      refine lv_iconst (v := nI 2) hx hb dL_key_19 (by decide) ?_
      refine W.widen (k := 2) (n := 12) (by omega) (by omega) ?_
      refine vx_ret ?_
      exact kl_iret hx hb hr hlocks hP (Or.inr ⟨_, hpx, Or.inr (⟨rfl, rfl⟩)⟩) dL_key_20
  · have f7 : w4 47 = some (kl_aL G 1 ol) := by obtain ⟨hfr, -⟩ := q5; exact (congrFun hfr.symm 47).trans k47
    refine lv_i2l hx hb dL_key_8 rfl ?_
    refine kl_last hx hb hK hP f7 (by omega) (by omega) dL_key_9 (fun w8 H locs f9 fr10 hzw8 hP => ?_)
    refine lv_goto (tgt := 21) hx hb dL_key_10 (by decide) ?_
    refine lv_iconst (v := nI 0) hx hb dL_key_21 (by decide) ?_
    refine W.widen (k := 2) (n := 12) (by omega) (by omega) ?_
    refine vx_ret ?_
    exact kl_iret hx hb hr hlocks hP (Or.inl ⟨rfl, _, _, _, q5, rfl, f9, fr10⟩) dL_key_22

abbrev rm_L_count : Room := { frames := 8, cells := 1, slots := 6, locals := 131 }
set_option maxHeartbeats 4000000 in
set_option maxRecDepth 100000 in
theorem c_L_count (l : Launch) (hst : l.stackTraces = false) (G : kl_G) (B : Nat) (w : kl_M) {nT nW nM : Nat} {rs : Int32} {nL nS nC : Nat} {T C : Nat → Int32} (t : Int32) {ol : Nat → Int64} (k0 : w 0 = some (.inr (4, [.ref (B + 1), .int (nI nT), .ref (B + 2), .int (nI nL), .ref (B + 3), .int (nI nS), .ref (B + 4), .int (nI nC), .ref (B + 5), .int (nI nW), .ref (B + 6), .ref (B + 9), .ref (B + 12), .int (nI nM), .ref (B + 13), .int rs]))) (k6 : w 6 = some (.inr (2, [.ref (B + 7), .ref (B + 8)]))) (k7 : w 7 = some (kl_aI G 24 T)) (k8 : w 8 = some (kl_aI G 96 C)) (k47 : w 47 = some (kl_aL G 1 ol)) (hn : nT ≤ 4) : vx_Met l yL_count wsL_count rm_L_count (kl_Px G B w [.ref (B + 0), .int t, .ref (B + 47)]) (kl_Qi G B (fun r w1 => (r = nI 0 ∧ ∃ (v : Int32) (w2 : kl_M) (u : Int64), ((fun r w1 => w = w1 ∧ mt_tab t nT ∧ r = nI (mt_ct (fun q => T q = t) 24)) : Int32 → kl_M → Prop) v w2 ∧ u = v.toInt64 ∧ w1 47 = some (kl_aL G 1 (vp_updL ol 0 u)) ∧ ∀ j : Nat, j ≠ 47 → w1 j = w2 j) ∨ ∃ E : String, ((fun E w1 => (E = "java/lang/IllegalArgumentException" ∧ w1 = w ∧ ¬ mt_tab t nT)) : String → kl_M → Prop) E w1 ∧ ((E = "java/lang/IllegalArgumentException" ∧ r = nI 1)))) (kl_X G B (fun E w1 => False)) 1 6 (kl_fr B) := by
  refine vx_ofWH (cc := cL_count) (maxL := 4) (ret := (some .int)) (hh := [(0, 9, 12, 13)]) (by decide) rfl ?_
  intro pg e s m args below meth cd s₁ Bd hml hv
  obtain ⟨rfl, hP0, hK, hZ⟩ := hv
  have hx := Bd.exec
  have hb := Bd.bytes
  have hr := Bd.returns
  have hts := atoms_spec (ws := wsL_count) Bd.pre
  have hown : s.vm.findClass RL = some m.cls := findClass_of_methodNamed Bd.named
  have hlocks := Bd.notSynchronized
  have htab := vx_table (x := yL_count) Bd (hts (.codeWith yL_count cL_count 4 (some .int) [(0, 9, 12, 13)]) List.mem_cons_self)
  have hP := kl_S.rf hP0
  have hl := lv_entry ([.ref (B + 0), .int t, .ref (B + 47)]) (n := 4) (Nat.le_of_ble_eq_true rfl)
  rw [lg_entry_eq]
  generalize (lg_sl ([.ref (B + 0), .int t, .ref (B + 47)]) ++ List.replicate (4 - (lg_sl ([.ref (B + 0), .int t, .ref (B + 47)])).length) Slot.unset).toArray = ls at hl ⊢
  have hl : lv_has ls 4 [(0, .ref (B + 0)), (1, .int t), (2, .ref (B + 47))] := hl
  refine lv_aload_n hx hb dL_count_0 rfl (lv_at hl 2 rfl) ?_
  refine lv_iconst (v := nI 0) hx hb dL_count_1 (by decide) ?_
  refine lv_aload_n hx hb dL_count_2 rfl (lv_at hl 0 rfl) ?_
  refine lv_iload_n hx hb dL_count_3 rfl (lv_at hl 1 rfl) ?_
  refine klx_cVi (C := RX4) (i := 0) (As := [.int t]) (rest := [.int (nI 0), .ref (B + 47)]) ⟨hx, hb, hml, hown, hts⟩ (c_X4_count l hst G B _ t k0 k6 k7 k8 hn) (cwV 1 hts gL_count_X4_count rfl rfl rfl (by decide +kernel) ⟨Nat.le_of_ble_eq_true rfl, Nat.le_of_ble_eq_true rfl⟩) hK hZ hP k0 rfl rfl hl.1 rfl (Nat.le_of_ble_eq_true rfl) dL_count_4 ⟨Nat.le_of_ble_eq_true rfl, Nat.le_of_ble_eq_true rfl⟩ (fun E ce q9 w9 H locs hpx hP h9 hv9 hc9 => ?_) (fun r6  w4 H locs q5 hP => ?_)
  · have hE : E = "java/lang/IllegalArgumentException" := hpx.1
    obtain rfl := hE
    refine vx_catch (name := "java/lang/IllegalArgumentException") hown [] ⟨0, 9, 12, 13⟩ [] (htab.trans rfl) (fun _ h => absurd h List.not_mem_nil) (by decide) (by decide) (hts (.classLink RL 13 "java/lang/IllegalArgumentException") (by decide +kernel)) (va_Nw.use rfl (hK.2.1 ("java/lang/IllegalArgumentException", "java/lang/IllegalArgumentException") (by decide))) h9 hv9 hc9 ?_
    refine lv_astore_n (lv' := [(3, .ref q9), (0, .ref (B + 0)), (1, .int t), (2, .ref (B + 47))]) hx hb dL_count_12 rfl hl (by decide) rfl (fun ls hl => ?_)
    refine lv_iconst (v := nI 1) hx hb dL_count_13 (by decide) ?_
    refine W.widen (k := 1) (n := 6) (by omega) (by omega) ?_
    refine vx_ret ?_
    exact kl_iret hx hb hr hlocks hP (Or.inr ⟨_, hpx, ⟨rfl, rfl⟩⟩) dL_count_14
  · have f7 : w4 47 = some (kl_aL G 1 ol) := by obtain ⟨hfr, -⟩ := q5; exact (congrFun hfr.symm 47).trans k47
    refine lv_i2l hx hb dL_count_7 rfl ?_
    refine kl_last hx hb hK hP f7 (by omega) (by omega) dL_count_8 (fun w8 H locs f9 fr10 hzw8 hP => ?_)
    refine lv_goto (tgt := 15) hx hb dL_count_9 (by decide) ?_
    refine lv_iconst (v := nI 0) hx hb dL_count_15 (by decide) ?_
    refine W.widen (k := 1) (n := 6) (by omega) (by omega) ?_
    refine vx_ret ?_
    exact kl_iret hx hb hr hlocks hP (Or.inl ⟨rfl, _, _, _, q5, rfl, f9, fr10⟩) dL_count_16

abbrev rm_L_referring : Room := { frames := 8, cells := 2, slots := 12, locals := 135 }
set_option maxHeartbeats 4000000 in
set_option maxRecDepth 100000 in
theorem c_L_referring (l : Launch) (hst : l.stackTraces = false) (G : kl_G) (B : Nat) (w : kl_M) {nT nW nM : Nat} {rs : Int32} {nL nS nC : Nat} {lf sf cf : Nat → Option Nat} {la : Nat → Nat} {lch : Nat → Int32} {lco : Nat → Nat} {lpa lwy : Nat → Int32} {sa : Nat → Nat} {stb : Nat → Int32} {sco ca cwa cpa : Nat → Nat} {ctb : Nat → Int32} {cln : Nat → Nat} {cwd : Nat → Nat → Nat} {ccol : Nat → Nat} {T C : Nat → Int32} (l9 x : Int32) {ol : Nat → Int64} (k0 : w 0 = some (.inr (4, [.ref (B + 1), .int (nI nT), .ref (B + 2), .int (nI nL), .ref (B + 3), .int (nI nS), .ref (B + 4), .int (nI nC), .ref (B + 5), .int (nI nW), .ref (B + 6), .ref (B + 9), .ref (B + 12), .int (nI nM), .ref (B + 13), .int rs]))) (k2 : w 2 = some (kl_aR G 3 6 lf)) (k6 : w 6 = some (.inr (2, [.ref (B + 7), .ref (B + 8)]))) (k7 : w 7 = some (kl_aI G 24 T)) (k8 : w 8 = some (kl_aI G 96 C)) (k47 : w 47 = some (kl_aL G 1 ol)) (hru : kl_RU G B w nL lf la lch lco lpa lwy nS sf sa stb sco nC cf ca cwa cpa ctb cln cwd ccol) (hn : nL ≤ 6) (hu : mt_uniq T C) (hpar : ∀ l, l < nL → lpa l ≠ -1) : vx_Met l yL_referring wsL_referring rm_L_referring (kl_Px G B w [.ref (B + 0), .int l9, .int x, .ref (B + 47)]) (kl_Qi G B (fun r w1 => (r = nI 0 ∧ ∃ (v : Int32) (w2 : kl_M) (u : Int64), ((fun r w1 => w = w1 ∧ ∃ j t0, j < nL ∧ l9 = nI j ∧ t0 < 24 ∧ T t0 = lpa j ∧ C (4 * t0) = x ∧ r = nI (mt_ct (fun p => mt_ref T C (lch j) (lco j) (lpa j) p t0) 24)) : Int32 → kl_M → Prop) v w2 ∧ u = v.toInt64 ∧ w1 47 = some (kl_aL G 1 (vp_updL ol 0 u)) ∧ ∀ j : Nat, j ≠ 47 → w1 j = w2 j) ∨ ∃ E : String, ((fun E w1 => (E = "java/lang/IllegalArgumentException" ∧ w1 = w ∧ ¬ mt_tab l9 nL) ∨ (E = "java/util/NoSuchElementException" ∧ w1 = w ∧ ∃ j, j < nL ∧ l9 = nI j ∧ ¬ mt_has T C (lpa j) x)) : String → kl_M → Prop) E w1 ∧ ((E = "java/lang/IllegalArgumentException" ∧ r = nI 1) ∨ (E = "java/util/NoSuchElementException" ∧ r = nI 2)))) (kl_X G B (fun E w1 => False)) 2 12 (kl_fr B) := by
  refine vx_ofWH (cc := cL_referring) (maxL := 5) (ret := (some .int)) (hh := [(0, 10, 13, 13), (0, 10, 17, 15)]) (by decide) rfl ?_
  intro pg e s m args below meth cd s₁ Bd hml hv
  obtain ⟨rfl, hP0, hK, hZ⟩ := hv
  have hx := Bd.exec
  have hb := Bd.bytes
  have hr := Bd.returns
  have hts := atoms_spec (ws := wsL_referring) Bd.pre
  have hown : s.vm.findClass RL = some m.cls := findClass_of_methodNamed Bd.named
  have hlocks := Bd.notSynchronized
  have htab := vx_table (x := yL_referring) Bd (hts (.codeWith yL_referring cL_referring 5 (some .int) [(0, 10, 13, 13), (0, 10, 17, 15)]) List.mem_cons_self)
  have hP := kl_S.rf hP0
  have hl := lv_entry ([.ref (B + 0), .int l9, .int x, .ref (B + 47)]) (n := 5) (Nat.le_of_ble_eq_true rfl)
  rw [lg_entry_eq]
  generalize (lg_sl ([.ref (B + 0), .int l9, .int x, .ref (B + 47)]) ++ List.replicate (5 - (lg_sl ([.ref (B + 0), .int l9, .int x, .ref (B + 47)])).length) Slot.unset).toArray = ls at hl ⊢
  have hl : lv_has ls 5 [(0, .ref (B + 0)), (1, .int l9), (2, .int x), (3, .ref (B + 47))] := hl
  refine lv_aload_n hx hb dL_referring_0 rfl (lv_at hl 3 rfl) ?_
  refine lv_iconst (v := nI 0) hx hb dL_referring_1 (by decide) ?_
  refine lv_aload_n hx hb dL_referring_2 rfl (lv_at hl 0 rfl) ?_
  refine lv_iload_n hx hb dL_referring_3 rfl (lv_at hl 1 rfl) ?_
  refine lv_iload_n hx hb dL_referring_4 rfl (lv_at hl 2 rfl) ?_
  refine klx_cVi (C := RX4) (i := 0) (As := [.int l9, .int x]) (rest := [.int (nI 0), .ref (B + 47)]) ⟨hx, hb, hml, hown, hts⟩ (c_X4_referring l hst G B _ l9 x k0 k2 k6 k7 k8 hru hn hu hpar) (cwV 2 hts gL_referring_X4_referring rfl rfl rfl (by decide +kernel) ⟨Nat.le_of_ble_eq_true rfl, Nat.le_of_ble_eq_true rfl⟩) hK hZ hP k0 rfl rfl hl.1 rfl (Nat.le_of_ble_eq_true rfl) dL_referring_5 ⟨Nat.le_of_ble_eq_true rfl, Nat.le_of_ble_eq_true rfl⟩ (fun E ce q9 w9 H locs hpx hP h9 hv9 hc9 => ?_) (fun r6  w4 H locs q5 hP => ?_)
  · have hE : E = "java/lang/IllegalArgumentException" ∨ E = "java/util/NoSuchElementException" := by rcases hpx with h | h <;> first | exact Or.inl h.1 | exact Or.inr (h.1)
    rcases hE with rfl | rfl
    · refine vx_catch (name := "java/lang/IllegalArgumentException") hown [] ⟨0, 10, 13, 13⟩ [⟨0, 10, 17, 15⟩] (htab.trans rfl) (fun _ h => absurd h List.not_mem_nil) (by decide) (by decide) (hts (.classLink RL 13 "java/lang/IllegalArgumentException") (by decide +kernel)) (va_Nw.use rfl (hK.2.1 ("java/lang/IllegalArgumentException", "java/lang/IllegalArgumentException") (by decide))) h9 hv9 hc9 ?_
      refine lv_astore (lv' := [(4, .ref q9), (0, .ref (B + 0)), (1, .int l9), (2, .int x), (3, .ref (B + 47))]) hx hb dL_referring_13 hl (by decide) rfl (fun ls hl => ?_)
      refine lv_iconst (v := nI 1) hx hb dL_referring_15 (by decide) ?_
      refine W.widen (k := 2) (n := 12) (by omega) (by omega) ?_
      refine vx_ret ?_
      exact kl_iret hx hb hr hlocks hP (Or.inr ⟨_, hpx, Or.inl ⟨rfl, rfl⟩⟩) dL_referring_16
    · refine vx_catch (name := "java/util/NoSuchElementException") hown [⟨0, 10, 13, 13⟩] ⟨0, 10, 17, 15⟩ [] (htab.trans rfl) (List.forall_mem_cons.mpr ⟨Or.inr ⟨by decide, _, hts (.classLink RL 13 "java/lang/IllegalArgumentException") (by decide +kernel), hK.2.2.1 ("java/util/NoSuchElementException", "java/lang/IllegalArgumentException") (by decide)⟩, (fun _ h => absurd h List.not_mem_nil)⟩) (by decide) (by decide) (hts (.classLink RL 15 "java/util/NoSuchElementException") (by decide +kernel)) (va_Nw.use rfl (hK.2.1 ("java/util/NoSuchElementException", "java/util/NoSuchElementException") (by decide))) h9 hv9 hc9 ?_
      refine lv_astore (lv' := [(4, .ref q9), (0, .ref (B + 0)), (1, .int l9), (2, .int x), (3, .ref (B + 47))]) hx hb dL_referring_17 hl (by decide) rfl (fun ls hl => ?_)
      refine lv_iconst (v := nI 2) hx hb dL_referring_19 (by decide) ?_
      refine W.widen (k := 2) (n := 12) (by omega) (by omega) ?_
      refine vx_ret ?_
      exact kl_iret hx hb hr hlocks hP (Or.inr ⟨_, hpx, Or.inr (⟨rfl, rfl⟩)⟩) dL_referring_20
  · have f7 : w4 47 = some (kl_aL G 1 ol) := by obtain ⟨hfr, -⟩ := q5; exact (congrFun hfr.symm 47).trans k47
    refine lv_i2l hx hb dL_referring_8 rfl ?_
    refine kl_last hx hb hK hP f7 (by omega) (by omega) dL_referring_9 (fun w8 H locs f9 fr10 hzw8 hP => ?_)
    refine lv_goto (tgt := 21) hx hb dL_referring_10 (by decide) ?_
    refine lv_iconst (v := nI 0) hx hb dL_referring_21 (by decide) ?_
    refine W.widen (k := 2) (n := 12) (by omega) (by omega) ?_
    refine vx_ret ?_
    exact kl_iret hx hb hr hlocks hP (Or.inl ⟨rfl, _, _, _, q5, rfl, f9, fr10⟩) dL_referring_22
