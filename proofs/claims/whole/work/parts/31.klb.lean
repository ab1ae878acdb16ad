abbrev rm_X4_losesTarget : Room := { frames := 3, cells := 0, slots := 0, locals := 67 }
set_option maxHeartbeats 4000000 in
set_option maxRecDepth 100000 in
theorem c_X4_losesTarget (l : Launch) (G : kl_G) (B : Nat) (w : kl_M) {nT nW nM : Nat} {rs : Int32} {nL nS nC : Nat} {T C gg : Nat → Int32} (k p : Nat) {ch : Int32} {co : Nat} {pa wy : Int32} (k0 : w 0 = some (.inr (4, [.ref (B + 1), .int (nI nT), .ref (B + 2), .int (nI nL), .ref (B + 3), .int (nI nS), .ref (B + 4), .int (nI nC), .ref (B + 5), .int (nI nW), .ref (B + 6), .ref (B + 9), .ref (B + 12), .int (nI nM), .ref (B + 13), .int rs]))) (k13 : w 13 = some (kl_aZ G 24 gg)) (k6 : w 6 = some (.inr (2, [.ref (B + 7), .ref (B + 8)]))) (k7 : w 7 = some (kl_aI G 24 T)) (k8 : w 8 = some (kl_aI G 96 C)) (h3 : w k = some (.inr (1, [.int ch, .int (nI co), .int pa, .int wy]))) (hp : p < 24) (hco : co < 4) (hpa : pa ≠ -1) (hu : mt_uniq T C) : Met l yX4_losesTarget wsX4_losesTarget rm_X4_losesTarget (kl_Pc G B w [.ref (B + 0), .ref (B + k), .int (nI p)]) (kl_Qi G B (fun r w1 => w = w1 ∧ kl_b r (mt_lost T C gg ch co pa p))) 0 0 (kl_fr B) := by
  refine Met.ofW (cc := cX4_losesTarget) (maxL := 4) (ret := (some .boolean)) (by decide) rfl ?_
  intro pg e s m args below meth cd s₁ Bd hml hv
  obtain ⟨rfl, hP0, hK⟩ := hv
  have hx := Bd.exec
  have hb := Bd.bytes
  have hr := Bd.returns
  have hts := atoms_spec (ws := wsX4_losesTarget) Bd.pre
  have hown : s.vm.findClass RX4 = some m.cls := findClass_of_methodNamed Bd.named
  have hlocks := Bd.notSynchronized
  have hinX4 : ∀ w ∈ u_ws RX4 TX4 16, w ∈ wsX4_losesTarget := by decide +kernel
  have hP := kl_S.rf hP0
  have hl := lv_entry ([.ref (B + 0), .ref (B + k), .int (nI p)]) (n := 4) (Nat.le_of_ble_eq_true rfl)
  rw [lg_entry_eq]
  generalize (lg_sl ([.ref (B + 0), .ref (B + k), .int (nI p)]) ++ List.replicate (4 - (lg_sl ([.ref (B + 0), .ref (B + k), .int (nI p)])).length) Slot.unset).toArray = ls at hl ⊢
  have hl : lv_has ls 4 [(0, .ref (B + 0)), (1, .ref (B + k)), (2, .int (nI p))] := hl
  refine lv_aload_n hx hb dX4_losesTarget_0 rfl (lv_at hl 1 rfl) ?_
  refine lv_aload_n hx hb dX4_losesTarget_1 rfl (lv_at hl 0 rfl) ?_
  refine kl_get (C := RX4) (T := TX4) (N := 16) (ci := 4) hx hb hts hinX4 hown hK hP k0 rfl 10 (by decide) (hts (.fieldLink RX4 53 "KinLedger" "rows" "LKinLedger$Rows;") (by decide +kernel)) (fun _ h9 => h9) rfl dX4_losesTarget_2 ?_
  refine lv_iload_n hx hb dX4_losesTarget_5 rfl (lv_at hl 2 rfl) ?_
  refine kl_cVi (C := RX1) (i := k) (As := [.ref (B + 6), .int (nI p)]) (rest := []) ⟨hx, hb, hml, hown, hts⟩ (c_X1_target l G B _ 6 7 8 k p h3 k6 k7 k8 (by omega) (by omega)) (cwV 2 hts gX4_losesTarget_X1_target rfl rfl rfl (by decide +kernel) ⟨Nat.le_of_ble_eq_true rfl, Nat.le_of_ble_eq_true rfl⟩) hK hP h3 rfl rfl hl.1 rfl (Nat.le_of_ble_eq_true rfl) dX4_losesTarget_6 ⟨Nat.le_of_ble_eq_true rfl, Nat.le_of_ble_eq_true rfl⟩ (fun r3 w1 H locs q2 hP => ?_)
  obtain ⟨rfl, hv4⟩ := q2
  rcases hv4 with ⟨rfl, hv4⟩ | ⟨p5, hp5, rfl, hv4⟩
  · refine lv_istore_n (lv' := [(3, .int ((-1))), (0, .ref (B + 0)), (1, .ref (B + k)), (2, .int (nI p))]) hx hb dX4_losesTarget_9 rfl hl (by decide) rfl (fun ls hl => ?_)
    refine lv_iload_n hx hb dX4_losesTarget_10 rfl (lv_at hl 0 rfl) ?_
    refine lv_iconst (v := (-1)) hx hb dX4_losesTarget_11 (by decide) ?_
    refine lv_icmp_eq (tgt := 28) hx hb dX4_losesTarget_12 (by decide) (fun c12 => ?_) (fun c12 => absurd rfl c12)
    refine lv_iconst (v := nI 0) hx hb dX4_losesTarget_28 (by decide) ?_
    exact kl_zret hx hb hr hlocks (by decide) hP ⟨rfl, kl_b.f (fun ⟨q2, hq2, z1, _⟩ => hv4 q2 hq2 z1)⟩ dX4_losesTarget_29
  · refine lv_istore_n (lv' := [(3, .int (nI p5)), (0, .ref (B + 0)), (1, .ref (B + k)), (2, .int (nI p))]) hx hb dX4_losesTarget_9 rfl hl (by decide) rfl (fun ls hl => ?_)
    refine lv_iload_n hx hb dX4_losesTarget_10 rfl (lv_at hl 0 rfl) ?_
    refine lv_iconst (v := (-1)) hx hb dX4_losesTarget_11 (by decide) ?_
    refine lv_icmp_eq (tgt := 28) hx hb dX4_losesTarget_12 (by decide) (fun c12 => absurd c12 (kl_nm1 (by omega))) (fun c12 => ?_)
    refine lv_aload_n hx hb dX4_losesTarget_15 rfl (lv_at hl 1 rfl) ?_
    refine kl_get (C := RX4) (T := TX4) (N := 16) (ci := 4) hx hb hts hinX4 hown hK hP k0 rfl 14 (by decide) (hts (.fieldLink RX4 67 "KinLedger" "going" "[Z") (by decide +kernel)) (fun _ h9 => h9) rfl dX4_losesTarget_16 ?_
    refine lv_iload_n hx hb dX4_losesTarget_19 rfl (lv_at hl 0 rfl) ?_
    refine kl_zald hx hb hK hP k13 (by omega) (by omega) dX4_losesTarget_20 ?_
    refine lv_if_eq (tgt := 28) hx hb dX4_losesTarget_21 (by decide) (fun c21 => ?_) (fun c21 => ?_)
    · refine lv_iconst (v := nI 0) hx hb dX4_losesTarget_28 (by decide) ?_
      exact kl_zret hx hb hr hlocks (by decide) hP ⟨rfl, kl_b.f (fun ⟨q2, hq2, z1, z2⟩ => z2 (by rw [mt_ref_one hu hpa hq2 hp5 z1 hv4]; exact c21))⟩ dX4_losesTarget_29
    · refine lv_iconst (v := nI 1) hx hb dX4_losesTarget_24 (by decide) ?_
      refine lv_goto (tgt := 29) hx hb dX4_losesTarget_25 (by decide) ?_
      exact kl_zret hx hb hr hlocks (by decide) hP ⟨rfl, kl_b.t ⟨p5, hp5, hv4, c21⟩⟩ dX4_losesTarget_29

abbrev rm_X4_markGoing : Room := { frames := 1, cells := 0, slots := 0, locals := 22 }
set_option maxHeartbeats 4000000 in
set_option maxRecDepth 100000 in
theorem c_X4_markGoing (l : Launch) (G : kl_G) (B : Nat) (w : kl_M) {nT nW nM : Nat} {rs : Int32} {nL nS nC : Nat} {T C gg : Nat → Int32} (t : Int32) (c : Nat) (x : Int32) (k0 : w 0 = some (.inr (4, [.ref (B + 1), .int (nI nT), .ref (B + 2), .int (nI nL), .ref (B + 3), .int (nI nS), .ref (B + 4), .int (nI nC), .ref (B + 5), .int (nI nW), .ref (B + 6), .ref (B + 9), .ref (B + 12), .int (nI nM), .ref (B + 13), .int rs]))) (k13 : w 13 = some (kl_aZ G 24 gg)) (k6 : w 6 = some (.inr (2, [.ref (B + 7), .ref (B + 8)]))) (k7 : w 7 = some (kl_aI G 24 T)) (k8 : w 8 = some (kl_aI G 96 C)) (hc : c < 4) : Met l yX4_markGoing wsX4_markGoing rm_X4_markGoing (kl_Pc G B w [.ref (B + 0), .int t, .int (nI c), .int x]) (kl_Qv G B (fun w1 => (∃ g2, w1 13 = some (kl_aZ G 24 g2) ∧ ∀ p, p < 24 → mt_mark T C t c x p (g2 p)) ∧ ∀ j, j ≠ 13 → w1 j = w j)) 0 0 (kl_fr B) := by
  refine Met.ofW (cc := cX4_markGoing) (maxL := 5) (ret := none) (by decide) rfl ?_
  intro pg e s m args below meth cd s₁ Bd hml hv
  obtain ⟨rfl, hP0, hK⟩ := hv
  have hx := Bd.exec
  have hb := Bd.bytes
  have hr := Bd.returns
  have hts := atoms_spec (ws := wsX4_markGoing) Bd.pre
  have hown : s.vm.findClass RX4 = some m.cls := findClass_of_methodNamed Bd.named
  have hlocks := Bd.notSynchronized
  have hinX4 : ∀ w ∈ u_ws RX4 TX4 16, w ∈ wsX4_markGoing := by decide +kernel
  have hP := kl_S.rf hP0
  have hl := lv_entry ([.ref (B + 0), .int t, .int (nI c), .int x]) (n := 5) (Nat.le_of_ble_eq_true rfl)
  rw [lg_entry_eq]
  generalize (lg_sl ([.ref (B + 0), .int t, .int (nI c), .int x]) ++ List.replicate (5 - (lg_sl ([.ref (B + 0), .int t, .int (nI c), .int x])).length) Slot.unset).toArray = ls at hl ⊢
  have hl : lv_has ls 5 [(0, .ref (B + 0)), (1, .int t), (2, .int (nI c)), (3, .int x)] := hl
  have frm : ∀ j : Nat, j ≠ 13 → w j = w j := fun j _ => rfl
  refine lv_iconst (v := nI 0) hx hb dX4_markGoing_0 (by decide) ?_
  refine lv_istore (lv' := [(4, .int (nI 0)), (0, .ref (B + 0)), (1, .int t), (2, .int (nI c)), (3, .int x)]) hx hb dX4_markGoing_1 hl (by decide) rfl (fun ls hl => ?_)
  have lp3 : ∀ (n3 : Nat) (p : Nat) (g : Nat → Int32), 24 - p < n3 → (p ≤ 24) → (∀ q, q < p → mt_mark T C t c x q (g q)) → ∀ (w1 : kl_M) (H : Heap) (locs : List Loc), w1 0 = some (.inr (4, [.ref (B + 1), .int (nI nT), .ref (B + 2), .int (nI nL), .ref (B + 3), .int (nI nS), .ref (B + 4), .int (nI nC), .ref (B + 5), .int (nI nW), .ref (B + 6), .ref (B + 9), .ref (B + 12), .int (nI nM), .ref (B + 13), .int rs])) → w1 13 = some (kl_aZ G 24 g) → w1 6 = some (.inr (2, [.ref (B + 7), .ref (B + 8)])) → w1 7 = some (kl_aI G 24 T) → w1 8 = some (kl_aI G 96 C) → (∀ j : Nat, j ≠ 13 → w1 j = w j) → kl_S G B w1 s.heap H locs → ∀ ls : Array Slot, lv_has ls 5 [(0, .ref (B + 0)), (1, .int t), (2, .int (nI c)), (3, .int x), (4, .int (nI p))] → W pg l e rm_X4_markGoing s m ([.ref (B + 0), .int t, .int (nI c), .int x] : List Value).toArray below meth cd H locs (0) (0) (MQ below (kl_Qv G B (fun w1 => (∃ g2, w1 13 = some (kl_aZ G 24 g2) ∧ ∀ p, p < 24 → mt_mark T C t c x p (g2 p)) ∧ ∀ j, j ≠ 13 → w1 j = w j)) ([.ref (B + 0), .int t, .int (nI c), .int x] : List Value).toArray s 0 0 (kl_fr B)) (F0 m 3 ls []) := by
    intro n3
    induction n3 with
    | zero => intro p g hm; exact absurd hm (Nat.not_lt_zero _)
    | succ n3 ih3 =>
      intro p g hm hp hg w1 H locs k0 k13 k6 k7 k8 frm hP ls hl
      refine lv_iload hx hb dX4_markGoing_3 (lv_at hl 4 rfl) ?_
      refine lv_bipush (v := nI 24) hx hb dX4_markGoing_5 (by decide) ?_
      refine kl_ge (tgt := 55) hx hb (by omega) (by omega) dX4_markGoing_7 (by decide) (fun c7 => ?_) (fun c7 => ?_)
      · exact kl_vret hx hb hr hlocks hP ⟨⟨g, k13, fun q hq => hg q (by omega)⟩, frm⟩ dX4_markGoing_55
      · refine lv_aload_n hx hb dX4_markGoing_10 rfl (lv_at hl 0 rfl) ?_
        refine kl_get (C := RX4) (T := TX4) (N := 16) (ci := 4) hx hb hts hinX4 hown hK hP k0 rfl 14 (by decide) (hts (.fieldLink RX4 67 "KinLedger" "going" "[Z") (by decide +kernel)) (fun _ h9 => h9) rfl dX4_markGoing_11 ?_
        refine lv_iload hx hb dX4_markGoing_14 (lv_at hl 4 rfl) ?_
        refine lv_aload_n hx hb dX4_markGoing_16 rfl (lv_at hl 0 rfl) ?_
        refine kl_get (C := RX4) (T := TX4) (N := 16) (ci := 4) hx hb hts hinX4 hown hK hP k0 rfl 10 (by decide) (hts (.fieldLink RX4 53 "KinLedger" "rows" "LKinLedger$Rows;") (by decide +kernel)) (fun _ h9 => h9) rfl dX4_markGoing_17 ?_
        refine lv_iload hx hb dX4_markGoing_20 (lv_at hl 4 rfl) ?_
        refine lv_iload_n hx hb dX4_markGoing_22 rfl (lv_at hl 1 rfl) ?_
        refine kl_cVi (C := RX2) (i := 6) (As := [.int (nI p), .int t]) (rest := [.int (nI p), .ref (B + 13)]) ⟨hx, hb, hml, hown, hts⟩ (c_X2_holds l G B _ 6 7 8 p t k6 k7 k8 (by omega)) (cwV 2 hts gX4_markGoing_X2_holds rfl rfl rfl (by decide +kernel) ⟨Nat.le_of_ble_eq_true rfl, Nat.le_of_ble_eq_true rfl⟩) hK hP k6 rfl rfl hl.1 rfl (Nat.le_of_ble_eq_true rfl) dX4_markGoing_23 ⟨Nat.le_of_ble_eq_true rfl, Nat.le_of_ble_eq_true rfl⟩ (fun r3 w1 H locs q2 hP => ?_)
        obtain ⟨rfl, hv4⟩ := q2
        refine kl_ifeq (tgt := 47) hx hb hv4 dX4_markGoing_26 (by decide) (fun c26 => ?_) (fun c26 => ?_)
        · refine lv_iconst (v := nI 0) hx hb dX4_markGoing_47 (by decide) ?_
          refine kl_zast hx hb hK hP k13 (by omega) (by omega) (y := nI 0) (by decide) dX4_markGoing_48 (fun w5 H locs f6 fr7 hzw5 hP => ?_)
          have k0 : w5 0 = some (.inr (4, [.ref (B + 1), .int (nI nT), .ref (B + 2), .int (nI nL), .ref (B + 3), .int (nI nS), .ref (B + 4), .int (nI nC), .ref (B + 5), .int (nI nW), .ref (B + 6), .ref (B + 9), .ref (B + 12), .int (nI nM), .ref (B + 13), .int rs])) := (fr7 _ (by decide)).trans k0
          have k6 : w5 6 = some (.inr (2, [.ref (B + 7), .ref (B + 8)])) := (fr7 _ (by decide)).trans k6
          have k7 : w5 7 = some (kl_aI G 24 T) := (fr7 _ (by decide)).trans k7
          have k8 : w5 8 = some (kl_aI G 96 C) := (fr7 _ (by decide)).trans k8
          have frm : ∀ j : Nat, j ≠ 13 → w5 j = w j := fun j k0 => (fr7 j k0).trans (frm j k0)
          refine lv_iinc (v := nI (p + 1)) (lv' := [(4, .int (nI (p + 1))), (0, .ref (B + 0)), (1, .int t), (2, .int (nI c)), (3, .int x)]) hx hb dX4_markGoing_49 hl (k := 4) rfl (nI_1 _) (by decide) rfl (fun ls hl => ?_)
          refine lv_goto (tgt := 3) hx hb dX4_markGoing_52 (by decide) ?_
          exact ih3 (p + 1) (upd g p (nI 0)) (by omega) (by first | omega | grind) (mt_upd_sp hg ⟨fun z => absurd z.1 c26, fun _ => rfl⟩) _ _ _ k0 f6 k6 k7 k8 frm hP ls (lv_sub hl [1, 2, 3, 4, 0] rfl)
        · refine lv_aload_n hx hb dX4_markGoing_29 rfl (lv_at hl 0 rfl) ?_
          refine kl_get (C := RX4) (T := TX4) (N := 16) (ci := 4) hx hb hts hinX4 hown hK hP k0 rfl 10 (by decide) (hts (.fieldLink RX4 53 "KinLedger" "rows" "LKinLedger$Rows;") (by decide +kernel)) (fun _ h9 => h9) rfl dX4_markGoing_30 ?_
          refine lv_iload hx hb dX4_markGoing_33 (lv_at hl 4 rfl) ?_
          refine lv_iload_n hx hb dX4_markGoing_35 rfl (lv_at hl 2 rfl) ?_
          refine kl_cVi (C := RX2) (i := 6) (As := [.int (nI p), .int (nI c)]) (rest := [.int (nI p), .ref (B + 13)]) ⟨hx, hb, hml, hown, hts⟩ (c_X2_at l G B _ 6 7 8 p c k6 k7 k8 (by omega) (by omega)) (cwV 2 hts gX4_markGoing_X2_at rfl rfl rfl (by decide +kernel) ⟨Nat.le_of_ble_eq_true rfl, Nat.le_of_ble_eq_true rfl⟩) hK hP k6 rfl rfl hl.1 rfl (Nat.le_of_ble_eq_true rfl) dX4_markGoing_36 ⟨Nat.le_of_ble_eq_true rfl, Nat.le_of_ble_eq_true rfl⟩ (fun r10 w8 H locs q9 hP => ?_)
          obtain ⟨rfl, rfl⟩ := q9
          refine kl_top (z := C (4 * p + c)) rfl ?_
          refine lv_iload_n hx hb dX4_markGoing_39 rfl (lv_at hl 3 rfl) ?_
          refine lv_icmp_ne (tgt := 47) hx hb dX4_markGoing_40 (by decide) (fun c40 => ?_) (fun c40 => ?_)
          · refine lv_iconst (v := nI 0) hx hb dX4_markGoing_47 (by decide) ?_
            refine kl_zast hx hb hK hP k13 (by omega) (by omega) (y := nI 0) (by decide) dX4_markGoing_48 (fun w11 H locs f12 fr13 hzw11 hP => ?_)
            have k0 : w11 0 = some (.inr (4, [.ref (B + 1), .int (nI nT), .ref (B + 2), .int (nI nL), .ref (B + 3), .int (nI nS), .ref (B + 4), .int (nI nC), .ref (B + 5), .int (nI nW), .ref (B + 6), .ref (B + 9), .ref (B + 12), .int (nI nM), .ref (B + 13), .int rs])) := (fr13 _ (by decide)).trans k0
            have k6 : w11 6 = some (.inr (2, [.ref (B + 7), .ref (B + 8)])) := (fr13 _ (by decide)).trans k6
            have k7 : w11 7 = some (kl_aI G 24 T) := (fr13 _ (by decide)).trans k7
            have k8 : w11 8 = some (kl_aI G 96 C) := (fr13 _ (by decide)).trans k8
            have frm : ∀ j : Nat, j ≠ 13 → w11 j = w j := fun j k0 => (fr13 j k0).trans (frm j k0)
            refine lv_iinc (v := nI (p + 1)) (lv' := [(4, .int (nI (p + 1))), (0, .ref (B + 0)), (1, .int t), (2, .int (nI c)), (3, .int x)]) hx hb dX4_markGoing_49 hl (k := 4) rfl (nI_1 _) (by decide) rfl (fun ls hl => ?_)
            refine lv_goto (tgt := 3) hx hb dX4_markGoing_52 (by decide) ?_
            exact ih3 (p + 1) (upd g p (nI 0)) (by omega) (by first | omega | grind) (mt_upd_sp hg ⟨fun z => absurd z.2 c40, fun _ => rfl⟩) _ _ _ k0 f12 k6 k7 k8 frm hP ls (lv_sub hl [1, 2, 3, 4, 0] rfl)
          · refine lv_iconst (v := nI 1) hx hb dX4_markGoing_43 (by decide) ?_
            refine lv_goto (tgt := 48) hx hb dX4_markGoing_44 (by decide) ?_
            refine kl_zast hx hb hK hP k13 (by omega) (by omega) (y := nI 1) (by decide) dX4_markGoing_48 (fun w14 H locs f15 fr16 hzw14 hP => ?_)
            have k0 : w14 0 = some (.inr (4, [.ref (B + 1), .int (nI nT), .ref (B + 2), .int (nI nL), .ref (B + 3), .int (nI nS), .ref (B + 4), .int (nI nC), .ref (B + 5), .int (nI nW), .ref (B + 6), .ref (B + 9), .ref (B + 12), .int (nI nM), .ref (B + 13), .int rs])) := (fr16 _ (by decide)).trans k0
            have k6 : w14 6 = some (.inr (2, [.ref (B + 7), .ref (B + 8)])) := (fr16 _ (by decide)).trans k6
            have k7 : w14 7 = some (kl_aI G 24 T) := (fr16 _ (by decide)).trans k7
            have k8 : w14 8 = some (kl_aI G 96 C) := (fr16 _ (by decide)).trans k8
            have frm : ∀ j : Nat, j ≠ 13 → w14 j = w j := fun j k0 => (fr16 j k0).trans (frm j k0)
            refine lv_iinc (v := nI (p + 1)) (lv' := [(4, .int (nI (p + 1))), (0, .ref (B + 0)), (1, .int t), (2, .int (nI c)), (3, .int x)]) hx hb dX4_markGoing_49 hl (k := 4) rfl (nI_1 _) (by decide) rfl (fun ls hl => ?_)
            refine lv_goto (tgt := 3) hx hb dX4_markGoing_52 (by decide) ?_
            exact ih3 (p + 1) (upd g p (nI 1)) (by omega) (by first | omega | grind) (mt_upd_sp hg ⟨fun _ => rfl, fun z => absurd ⟨c26, c40⟩ z⟩) _ _ _ k0 f15 k6 k7 k8 frm hP ls (lv_sub hl [1, 2, 3, 4, 0] rfl)
  exact lp3 (24 + 1) 0 gg (Nat.lt_succ_of_le (by omega)) (by first | omega | grind) (fun q hq => absurd hq (Nat.not_lt_zero q)) _ _ _ k0 k13 k6 k7 k8 frm hP ls (lv_sub hl [1, 2, 3, 4, 0] rfl)

abbrev rm_X4_spreadGoing : Room := { frames := 4, cells := 0, slots := 0, locals := 90 }
set_option maxHeartbeats 4000000 in
set_option maxRecDepth 100000 in
theorem c_X4_spreadGoing (l : Launch) (G : kl_G) (B : Nat) (w : kl_M) {nT nW nM : Nat} {rs : Int32} {nL nS nC : Nat} {lf sf cf : Nat → Option Nat} {la : Nat → Nat} {lch : Nat → Int32} {lco : Nat → Nat} {lpa lwy : Nat → Int32} {sa : Nat → Nat} {stb : Nat → Int32} {sco ca cwa cpa : Nat → Nat} {ctb : Nat → Int32} {cln : Nat → Nat} {cwd : Nat → Nat → Nat} {ccol : Nat → Nat} {T C gg : Nat → Int32} (k0 : w 0 = some (.inr (4, [.ref (B + 1), .int (nI nT), .ref (B + 2), .int (nI nL), .ref (B + 3), .int (nI nS), .ref (B + 4), .int (nI nC), .ref (B + 5), .int (nI nW), .ref (B + 6), .ref (B + 9), .ref (B + 12), .int (nI nM), .ref (B + 13), .int rs]))) (k2 : w 2 = some (kl_aR G 3 6 lf)) (k13 : w 13 = some (kl_aZ G 24 gg)) (k6 : w 6 = some (.inr (2, [.ref (B + 7), .ref (B + 8)]))) (k7 : w 7 = some (kl_aI G 24 T)) (k8 : w 8 = some (kl_aI G 96 C)) (hru : kl_RU G B w nL lf la lch lco lpa lwy nS sf sa stb sco nC cf ca cwa cpa ctb cln cwd ccol) (hn : nL ≤ 6) (hu : mt_uniq T C) (hpar : ∀ l, l < nL → lpa l ≠ -1) : Met l yX4_spreadGoing wsX4_spreadGoing rm_X4_spreadGoing (kl_Pc G B w [.ref (B + 0)]) (kl_Qi G B (fun r w1 => (∃ g2 mm, r = nI mm ∧ w1 13 = some (kl_aZ G 24 g2) ∧ mt_from T C nL lch lco lpa lwy gg g2 ∧ mt_sp T C lch lco lpa lwy (fun l _ => l < nL) gg g2 mm) ∧ ∀ j, j ≠ 13 → w1 j = w j)) 0 0 (kl_fr B) := by
  refine Met.ofW (cc := cX4_spreadGoing) (maxL := 4) (ret := (some .boolean)) (by decide) rfl ?_
  intro pg e s m args below meth cd s₁ Bd hml hv
  obtain ⟨rfl, hP0, hK⟩ := hv
  have hx := Bd.exec
  have hb := Bd.bytes
  have hr := Bd.returns
  have hts := atoms_spec (ws := wsX4_spreadGoing) Bd.pre
  have hown : s.vm.findClass RX4 = some m.cls := findClass_of_methodNamed Bd.named
  have hlocks := Bd.notSynchronized
  have hinX1 : ∀ w ∈ u_ws RX1 TX1 4, w ∈ wsX4_spreadGoing := by decide +kernel
  have hinX4 : ∀ w ∈ u_ws RX4 TX4 16, w ∈ wsX4_spreadGoing := by decide +kernel
  have hP := kl_S.rf hP0
  have hl := lv_entry ([.ref (B + 0)]) (n := 4) (Nat.le_of_ble_eq_true rfl)
  rw [lg_entry_eq]
  generalize (lg_sl ([.ref (B + 0)]) ++ List.replicate (4 - (lg_sl ([.ref (B + 0)])).length) Slot.unset).toArray = ls at hl ⊢
  have hl : lv_has ls 4 [(0, .ref (B + 0))] := hl
  have frm : ∀ j : Nat, j ≠ 13 → w j = w j := fun j _ => rfl
  refine lv_iconst (v := nI 0) hx hb dX4_spreadGoing_0 (by decide) ?_
  refine lv_istore_n (lv' := [(1, .int (nI 0)), (0, .ref (B + 0))]) hx hb dX4_spreadGoing_1 rfl hl (by decide) rfl (fun ls hl => ?_)
  refine lv_iconst (v := nI 0) hx hb dX4_spreadGoing_2 (by decide) ?_
  refine lv_istore_n (lv' := [(2, .int (nI 0)), (1, .int (nI 0)), (0, .ref (B + 0))]) hx hb dX4_spreadGoing_3 rfl hl (by decide) rfl (fun ls hl => ?_)
  have lp4 : ∀ (n4 : Nat) (li : Nat) (mm : Nat) (g : Nat → Int32), nL - li < n4 → (li ≤ nL) → (mt_from T C nL lch lco lpa lwy gg g) → (mt_sp T C lch lco lpa lwy (fun l2 _ => l2 < li) gg g mm) → ∀ (w1 : kl_M) (H : Heap) (locs : List Loc), w1 0 = some (.inr (4, [.ref (B + 1), .int (nI nT), .ref (B + 2), .int (nI nL), .ref (B + 3), .int (nI nS), .ref (B + 4), .int (nI nC), .ref (B + 5), .int (nI nW), .ref (B + 6), .ref (B + 9), .ref (B + 12), .int (nI nM), .ref (B + 13), .int rs])) → w1 2 = some (kl_aR G 3 6 lf) → w1 13 = some (kl_aZ G 24 g) → w1 6 = some (.inr (2, [.ref (B + 7), .ref (B + 8)])) → w1 7 = some (kl_aI G 24 T) → w1 8 = some (kl_aI G 96 C) → (kl_RU G B w1 nL lf la lch lco lpa lwy nS sf sa stb sco nC cf ca cwa cpa ctb cln cwd ccol) → (∀ j : Nat, j ≠ 13 → w1 j = w j) → kl_S G B w1 s.heap H locs → ∀ ls : Array Slot, lv_has ls 4 [(0, .ref (B + 0)), (1, .int (nI mm)), (2, .int (nI li))] → W pg l e rm_X4_spreadGoing s m ([.ref (B + 0)] : List Value).toArray below meth cd H locs (0) (0) (MQ below (kl_Qi G B (fun r w1 => (∃ g2 mm, r = nI mm ∧ w1 13 = some (kl_aZ G 24 g2) ∧ mt_from T C nL lch lco lpa lwy gg g2 ∧ mt_sp T C lch lco lpa lwy (fun l _ => l < nL) gg g2 mm) ∧ ∀ j, j ≠ 13 → w1 j = w j)) ([.ref (B + 0)] : List Value).toArray s 0 0 (kl_fr B)) (F0 m 4 ls []) := by
    intro n4
    induction n4 with
    | zero => intro li mm g hm; exact absurd hm (Nat.not_lt_zero _)
    | succ n4 ih4 =>
      intro li mm g hm hl9 hfr hsp w1 H locs k0 k2 k13 k6 k7 k8 hru frm hP ls hl
      refine lv_iload_n hx hb dX4_spreadGoing_4 rfl (lv_at hl 2 rfl) ?_
      refine lv_aload_n hx hb dX4_spreadGoing_5 rfl (lv_at hl 0 rfl) ?_
      refine kl_get (C := RX4) (T := TX4) (N := 16) (ci := 4) hx hb hts hinX4 hown hK hP k0 rfl 3 (by decide) (hts (.fieldLink RX4 23 "KinLedger" "linkCount" "I") (by decide +kernel)) (fun _ h9 => h9) rfl dX4_spreadGoing_6 ?_
      refine kl_ge (tgt := 77) hx hb (by omega) (by omega) dX4_spreadGoing_9 (by decide) (fun c9 => ?_) (fun c9 => ?_)
      · refine lv_iload_n hx hb dX4_spreadGoing_77 rfl (lv_at hl 1 rfl) ?_
        exact kl_zret hx hb hr hlocks hsp.nar hP ⟨⟨g, mm, rfl, k13, hfr, hsp.same (fun l2 p2 hp2 z => by omega)⟩, frm⟩ dX4_spreadGoing_78
      · refine lv_iconst (v := nI 0) hx hb dX4_spreadGoing_12 (by decide) ?_
        refine lv_istore_n (lv' := [(3, .int (nI 0)), (0, .ref (B + 0)), (1, .int (nI mm)), (2, .int (nI li))]) hx hb dX4_spreadGoing_13 rfl hl (by decide) rfl (fun ls hl => ?_)
        have lp14 : ∀ (n14 : Nat) (p : Nat) (mm : Nat) (g : Nat → Int32), 24 - p < n14 → (p ≤ 24) → (mt_from T C nL lch lco lpa lwy gg g) → (mt_sp T C lch lco lpa lwy (fun l2 p2 => l2 < li ∨ (l2 = li ∧ p2 < p)) gg g mm) → ∀ (w1 : kl_M) (H : Heap) (locs : List Loc), w1 0 = some (.inr (4, [.ref (B + 1), .int (nI nT), .ref (B + 2), .int (nI nL), .ref (B + 3), .int (nI nS), .ref (B + 4), .int (nI nC), .ref (B + 5), .int (nI nW), .ref (B + 6), .ref (B + 9), .ref (B + 12), .int (nI nM), .ref (B + 13), .int rs])) → w1 2 = some (kl_aR G 3 6 lf) → w1 13 = some (kl_aZ G 24 g) → w1 6 = some (.inr (2, [.ref (B + 7), .ref (B + 8)])) → w1 7 = some (kl_aI G 24 T) → w1 8 = some (kl_aI G 96 C) → (kl_RU G B w1 nL lf la lch lco lpa lwy nS sf sa stb sco nC cf ca cwa cpa ctb cln cwd ccol) → (∀ j : Nat, j ≠ 13 → w1 j = w j) → kl_S G B w1 s.heap H locs → ∀ ls : Array Slot, lv_has ls 4 [(0, .ref (B + 0)), (1, .int (nI mm)), (2, .int (nI li)), (3, .int (nI p))] → W pg l e rm_X4_spreadGoing s m ([.ref (B + 0)] : List Value).toArray below meth cd H locs (0) (0) (MQ below (kl_Qi G B (fun r w1 => (∃ g2 mm, r = nI mm ∧ w1 13 = some (kl_aZ G 24 g2) ∧ mt_from T C nL lch lco lpa lwy gg g2 ∧ mt_sp T C lch lco lpa lwy (fun l _ => l < nL) gg g2 mm) ∧ ∀ j, j ≠ 13 → w1 j = w j)) ([.ref (B + 0)] : List Value).toArray s 0 0 (kl_fr B)) (F0 m 14 ls []) := by
          intro n14
          induction n14 with
          | zero => intro p mm g hm; exact absurd hm (Nat.not_lt_zero _)
          | succ n14 ih14 =>
            intro p mm g hm hp hfr hsp w1 H locs k0 k2 k13 k6 k7 k8 hru frm hP ls hl
            refine lv_iload_n hx hb dX4_spreadGoing_14 rfl (lv_at hl 3 rfl) ?_
            refine lv_bipush (v := nI 24) hx hb dX4_spreadGoing_15 (by decide) ?_
            refine kl_ge (tgt := 71) hx hb (by omega) (by omega) dX4_spreadGoing_17 (by decide) (fun c17 => ?_) (fun c17 => ?_)
            · refine lv_iinc (v := nI (li + 1)) (lv' := [(2, .int (nI (li + 1))), (0, .ref (B + 0)), (1, .int (nI mm)), (3, .int (nI p))]) hx hb dX4_spreadGoing_71 hl (k := 2) rfl (nI_1 _) (by decide) rfl (fun ls hl => ?_)
              refine lv_goto (tgt := 4) hx hb dX4_spreadGoing_74 (by decide) ?_
              exact ih4 (li + 1) mm g (by omega) (by first | omega | grind) hfr (hsp.same (fun l2 p2 hp2 z => by omega)) _ _ _ k0 k2 k13 k6 k7 k8 hru frm hP ls (lv_sub hl [1, 2, 0] rfl)
            · refine lv_aload_n hx hb dX4_spreadGoing_20 rfl (lv_at hl 0 rfl) ?_
              refine kl_get (C := RX4) (T := TX4) (N := 16) (ci := 4) hx hb hts hinX4 hown hK hP k0 rfl 2 (by decide) (hts (.fieldLink RX4 19 "KinLedger" "links" "[LKinLedger$Link;") (by decide +kernel)) (fun _ h9 => h9) rfl dX4_spreadGoing_21 ?_
              refine lv_iload_n hx hb dX4_spreadGoing_24 rfl (lv_at hl 2 rfl) ?_
              obtain ⟨el1a, el1b, ⟨el1c, el1d⟩, el1e⟩ := hru.1 li (by omega)
              refine kl_aald hx hb hK hP 3 (k0 := 3) k2 rfl (by omega) (by omega) el1a dX4_spreadGoing_25 ?_
              refine kl_get (C := RX1) (T := TX1) (N := 4) (ci := 1) hx hb hts hinX1 hown hK hP el1e rfl 3 (by decide) (hts (.fieldLink RX4 202 "KinLedger$Link" "way" "I") (by decide +kernel)) (fun _ h9 => h9) rfl dX4_spreadGoing_26 ?_
              refine lv_iconst (v := nI 1) hx hb dX4_spreadGoing_29 (by decide) ?_
              refine lv_icmp_ne (tgt := 65) hx hb dX4_spreadGoing_30 (by decide) (fun c30 => ?_) (fun c30 => ?_)
              · refine lv_iinc (v := nI (p + 1)) (lv' := [(3, .int (nI (p + 1))), (0, .ref (B + 0)), (1, .int (nI mm)), (2, .int (nI li))]) hx hb dX4_spreadGoing_65 hl (k := 3) rfl (nI_1 _) (by decide) rfl (fun ls hl => ?_)
                refine lv_goto (tgt := 14) hx hb dX4_spreadGoing_68 (by decide) ?_
                exact ih14 (p + 1) mm g (by omega) (by first | omega | grind) hfr (hsp.skip (l0 := li) (x := p) (fun l2 p2 hp2 z => by omega) (fun z _ => absurd z c30)) _ _ _ k0 k2 k13 k6 k7 k8 hru frm hP ls (lv_sub hl [1, 2, 3, 0] rfl)
              · refine lv_aload_n hx hb dX4_spreadGoing_33 rfl (lv_at hl 0 rfl) ?_
                refine kl_get (C := RX4) (T := TX4) (N := 16) (ci := 4) hx hb hts hinX4 hown hK hP k0 rfl 14 (by decide) (hts (.fieldLink RX4 67 "KinLedger" "going" "[Z") (by decide +kernel)) (fun _ h9 => h9) rfl dX4_spreadGoing_34 ?_
                refine lv_iload_n hx hb dX4_spreadGoing_37 rfl (lv_at hl 3 rfl) ?_
                refine kl_zald hx hb hK hP k13 (by omega) (by omega) dX4_spreadGoing_38 ?_
                refine lv_if_ne (tgt := 65) hx hb dX4_spreadGoing_39 (by decide) (fun c39 => ?_) (fun c39 => ?_)
                · refine lv_iinc (v := nI (p + 1)) (lv' := [(3, .int (nI (p + 1))), (0, .ref (B + 0)), (1, .int (nI mm)), (2, .int (nI li))]) hx hb dX4_spreadGoing_65 hl (k := 3) rfl (nI_1 _) (by decide) rfl (fun ls hl => ?_)
                  refine lv_goto (tgt := 14) hx hb dX4_spreadGoing_68 (by decide) ?_
                  exact ih14 (p + 1) mm g (by omega) (by first | omega | grind) hfr (hsp.skip (l0 := li) (x := p) (fun l2 p2 hp2 z => by omega) (fun _ z => absurd z c39)) _ _ _ k0 k2 k13 k6 k7 k8 hru frm hP ls (lv_sub hl [1, 2, 3, 0] rfl)
                · refine lv_aload_n hx hb dX4_spreadGoing_42 rfl (lv_at hl 0 rfl) ?_
                  refine lv_aload_n hx hb dX4_spreadGoing_43 rfl (lv_at hl 0 rfl) ?_
                  refine kl_get (C := RX4) (T := TX4) (N := 16) (ci := 4) hx hb hts hinX4 hown hK hP k0 rfl 2 (by decide) (hts (.fieldLink RX4 19 "KinLedger" "links" "[LKinLedger$Link;") (by decide +kernel)) (fun _ h9 => h9) rfl dX4_spreadGoing_44 ?_
                  refine lv_iload_n hx hb dX4_spreadGoing_47 rfl (lv_at hl 2 rfl) ?_
                  obtain ⟨el2a, el2b, ⟨el2c, el2d⟩, el2e⟩ := hru.1 li (by omega)
                  refine kl_aald hx hb hK hP 3 (k0 := 3) k2 rfl (by omega) (by omega) el2a dX4_spreadGoing_48 ?_
                  refine lv_iload_n hx hb dX4_spreadGoing_49 rfl (lv_at hl 3 rfl) ?_
                  refine kl_cVi (C := RX4) (i := 0) (As := [.ref (B + (la li)), .int (nI p)]) (rest := []) ⟨hx, hb, hml, hown, hts⟩ (c_X4_losesTarget l G B _ (la li) p k0 k13 k6 k7 k8 el2e (by omega) (by omega) (hpar li (by omega)) hu) (cwV 2 hts gX4_spreadGoing_X4_losesTarget rfl rfl rfl (by decide +kernel) ⟨Nat.le_of_ble_eq_true rfl, Nat.le_of_ble_eq_true rfl⟩) hK hP k0 rfl rfl hl.1 rfl (Nat.le_of_ble_eq_true rfl) dX4_spreadGoing_50 ⟨Nat.le_of_ble_eq_true rfl, Nat.le_of_ble_eq_true rfl⟩ (fun r5 w3 H locs q4 hP => ?_)
                  obtain ⟨rfl, hv6⟩ := q4
                  refine kl_ifeq (tgt := 65) hx hb hv6 dX4_spreadGoing_53 (by decide) (fun c53 => ?_) (fun c53 => ?_)
                  · refine lv_iinc (v := nI (p + 1)) (lv' := [(3, .int (nI (p + 1))), (0, .ref (B + 0)), (1, .int (nI mm)), (2, .int (nI li))]) hx hb dX4_spreadGoing_65 hl (k := 3) rfl (nI_1 _) (by decide) rfl (fun ls hl => ?_)
                    refine lv_goto (tgt := 14) hx hb dX4_spreadGoing_68 (by decide) ?_
                    exact ih14 (p + 1) mm g (by omega) (by first | omega | grind) hfr (hsp.skip (l0 := li) (x := p) (fun l2 p2 hp2 z => by omega) (fun _ _ => c53)) _ _ _ k0 k2 k13 k6 k7 k8 hru frm hP ls (lv_sub hl [1, 2, 3, 0] rfl)
                  · refine lv_aload_n hx hb dX4_spreadGoing_56 rfl (lv_at hl 0 rfl) ?_
                    refine kl_get (C := RX4) (T := TX4) (N := 16) (ci := 4) hx hb hts hinX4 hown hK hP k0 rfl 14 (by decide) (hts (.fieldLink RX4 67 "KinLedger" "going" "[Z") (by decide +kernel)) (fun _ h9 => h9) rfl dX4_spreadGoing_57 ?_
                    refine lv_iload_n hx hb dX4_spreadGoing_60 rfl (lv_at hl 3 rfl) ?_
                    refine lv_iconst (v := nI 1) hx hb dX4_spreadGoing_61 (by decide) ?_
                    refine kl_zast hx hb hK hP k13 (by omega) (by omega) (y := nI 1) (by decide) dX4_spreadGoing_62 (fun w7 H locs f8 fr9 hzw7 hP => ?_)
                    have k0 : w7 0 = some (.inr (4, [.ref (B + 1), .int (nI nT), .ref (B + 2), .int (nI nL), .ref (B + 3), .int (nI nS), .ref (B + 4), .int (nI nC), .ref (B + 5), .int (nI nW), .ref (B + 6), .ref (B + 9), .ref (B + 12), .int (nI nM), .ref (B + 13), .int rs])) := (fr9 _ (by decide)).trans k0
                    have k2 : w7 2 = some (kl_aR G 3 6 lf) := (fr9 _ (by decide)).trans k2
                    have k6 : w7 6 = some (.inr (2, [.ref (B + 7), .ref (B + 8)])) := (fr9 _ (by decide)).trans k6
                    have k7 : w7 7 = some (kl_aI G 24 T) := (fr9 _ (by decide)).trans k7
                    have k8 : w7 8 = some (kl_aI G 96 C) := (fr9 _ (by decide)).trans k8
                    have el2e : w7 (la li) = some (.inr (1, [.int (lch li), .int (nI (lco li)), .int (lpa li), .int (lwy li)])) := (fr9 _ (by omega)).trans el2e
                    have hru := kl_RU.mv hru (fun j hj => fr9 j (by omega))
                    have frm : ∀ j : Nat, j ≠ 13 → w7 j = w j := fun j k0 => (fr9 j k0).trans (frm j k0)
                    refine lv_iconst (v := nI 1) hx hb dX4_spreadGoing_63 (by decide) ?_
                    refine lv_istore_n (lv' := [(1, .int (nI 1)), (0, .ref (B + 0)), (2, .int (nI li)), (3, .int (nI p))]) hx hb dX4_spreadGoing_64 rfl hl (by decide) rfl (fun ls hl => ?_)
                    refine lv_iinc (v := nI (p + 1)) (lv' := [(3, .int (nI (p + 1))), (1, .int (nI 1)), (0, .ref (B + 0)), (2, .int (nI li))]) hx hb dX4_spreadGoing_65 hl (k := 3) rfl (nI_1 _) (by decide) rfl (fun ls hl => ?_)
                    refine lv_goto (tgt := 14) hx hb dX4_spreadGoing_68 (by decide) ?_
                    exact ih14 (p + 1) 1 (upd g p (nI 1)) (by omega) (by first | omega | grind) (hfr.add c9 c30 (by omega) c53) (hsp.set (by omega) c39) _ _ _ k0 k2 f8 k6 k7 k8 hru frm hP ls (lv_sub hl [2, 1, 3, 0] rfl)
        exact lp14 (24 + 1) 0 mm g (Nat.lt_succ_of_le (by omega)) (by first | omega | grind) hfr (hsp.same (fun l2 p2 hp2 z => by omega)) _ _ _ k0 k2 k13 k6 k7 k8 hru frm hP ls (lv_sub hl [1, 2, 3, 0] rfl)
  exact lp4 (nL + 1) 0 0 gg (Nat.lt_succ_of_le (by omega)) (by first | omega | grind) mt_from.rf (mt_sp.rf (fun l2 p2 _ z => absurd z (Nat.not_lt_zero _))) _ _ _ k0 k2 k13 k6 k7 k8 hru frm hP ls (lv_sub hl [2, 1, 0] rfl)

abbrev rm_X4_removeGoing : Room := { frames := 1, cells := 0, slots := 0, locals := 21 }
set_option maxHeartbeats 4000000 in
set_option maxRecDepth 100000 in
theorem c_X4_removeGoing (l : Launch) (G : kl_G) (B : Nat) (w : kl_M) {nT nW nM : Nat} {rs : Int32} {nL nS nC : Nat} {dT dC gg : Nat → Int32} (k0 : w 0 = some (.inr (4, [.ref (B + 1), .int (nI nT), .ref (B + 2), .int (nI nL), .ref (B + 3), .int (nI nS), .ref (B + 4), .int (nI nC), .ref (B + 5), .int (nI nW), .ref (B + 6), .ref (B + 9), .ref (B + 12), .int (nI nM), .ref (B + 13), .int rs]))) (k13 : w 13 = some (kl_aZ G 24 gg)) (k9 : w 9 = some (.inr (2, [.ref (B + 10), .ref (B + 11)]))) (k10 : w 10 = some (kl_aI G 24 dT)) (k11 : w 11 = some (kl_aI G 96 dC))  : Met l yX4_removeGoing wsX4_removeGoing rm_X4_removeGoing (kl_Pc G B w [.ref (B + 0)]) (kl_Qi G B (fun r w1 => r = nI (mt_gc 24 gg) ∧ w1 10 = some (kl_aI G 24 (mt_rm gg dT)) ∧ ∀ j, j ≠ 10 → w1 j = w j)) 0 0 (kl_fr B) := by
  refine Met.ofW (cc := cX4_removeGoing) (maxL := 3) (ret := (some .int)) (by decide) rfl ?_
  intro pg e s m args below meth cd s₁ Bd hml hv
  obtain ⟨rfl, hP0, hK⟩ := hv
  have hx := Bd.exec
  have hb := Bd.bytes
  have hr := Bd.returns
  have hts := atoms_spec (ws := wsX4_removeGoing) Bd.pre
  have hown : s.vm.findClass RX4 = some m.cls := findClass_of_methodNamed Bd.named
  have hlocks := Bd.notSynchronized
  have hinX4 : ∀ w ∈ u_ws RX4 TX4 16, w ∈ wsX4_removeGoing := by decide +kernel
  have hP := kl_S.rf hP0
  have hl := lv_entry ([.ref (B + 0)]) (n := 3) (Nat.le_of_ble_eq_true rfl)
  rw [lg_entry_eq]
  generalize (lg_sl ([.ref (B + 0)]) ++ List.replicate (3 - (lg_sl ([.ref (B + 0)])).length) Slot.unset).toArray = ls at hl ⊢
  have hl : lv_has ls 3 [(0, .ref (B + 0))] := hl
  have frm : ∀ j : Nat, j ≠ 10 → w j = w j := fun j _ => rfl
  refine lv_iconst (v := nI 0) hx hb dX4_removeGoing_0 (by decide) ?_
  refine lv_istore_n (lv' := [(1, .int (nI 0)), (0, .ref (B + 0))]) hx hb dX4_removeGoing_1 rfl hl (by decide) rfl (fun ls hl => ?_)
  refine lv_iconst (v := nI 0) hx hb dX4_removeGoing_2 (by decide) ?_
  refine lv_istore_n (lv' := [(2, .int (nI 0)), (1, .int (nI 0)), (0, .ref (B + 0))]) hx hb dX4_removeGoing_3 rfl hl (by decide) rfl (fun ls hl => ?_)
  have lp4 : ∀ (n4 : Nat) (p : Nat) (k : Nat) (tt : Nat → Int32), 24 - p < n4 → (p ≤ 24) → (k = mt_gc p gg) → ((∀ q, q < p → tt q = mt_rm gg dT q) ∧ ∀ q, p ≤ q → tt q = dT q) → ∀ (w1 : kl_M) (H : Heap) (locs : List Loc), w1 0 = some (.inr (4, [.ref (B + 1), .int (nI nT), .ref (B + 2), .int (nI nL), .ref (B + 3), .int (nI nS), .ref (B + 4), .int (nI nC), .ref (B + 5), .int (nI nW), .ref (B + 6), .ref (B + 9), .ref (B + 12), .int (nI nM), .ref (B + 13), .int rs])) → w1 13 = some (kl_aZ G 24 gg) → w1 9 = some (.inr (2, [.ref (B + 10), .ref (B + 11)])) → w1 10 = some (kl_aI G 24 tt) → w1 11 = some (kl_aI G 96 dC) → (∀ j : Nat, j ≠ 10 → w1 j = w j) → kl_S G B w1 s.heap H locs → ∀ ls : Array Slot, lv_has ls 3 [(0, .ref (B + 0)), (1, .int (nI k)), (2, .int (nI p))] → W pg l e rm_X4_removeGoing s m ([.ref (B + 0)] : List Value).toArray below meth cd H locs (0) (0) (MQ below (kl_Qi G B (fun r w1 => r = nI (mt_gc 24 gg) ∧ w1 10 = some (kl_aI G 24 (mt_rm gg dT)) ∧ ∀ j, j ≠ 10 → w1 j = w j)) ([.ref (B + 0)] : List Value).toArray s 0 0 (kl_fr B)) (F0 m 4 ls []) := by
    intro n4
    induction n4 with
    | zero => intro p k tt hm; exact absurd hm (Nat.not_lt_zero _)
    | succ n4 ih4 =>
      intro p k tt hm hp hk ht w1 H locs k0 k13 k9 k10 k11 frm hP ls hl
      refine lv_iload_n hx hb dX4_removeGoing_4 rfl (lv_at hl 2 rfl) ?_
      refine lv_bipush (v := nI 24) hx hb dX4_removeGoing_5 (by decide) ?_
      refine kl_ge (tgt := 36) hx hb (by omega) (by omega) dX4_removeGoing_7 (by decide) (fun c7 => ?_) (fun c7 => ?_)
      · obtain ⟨w9, f9, fr9, hP⟩ := kl_arr (g := mt_rm gg dT) hP k10 (fun q hq => ht.1 q (by omega))
        have frm : ∀ j : Nat, j ≠ 10 → w9 j = w j := fun j k0 => (fr9 j k0).trans (frm j k0)
        refine lv_iload_n hx hb dX4_removeGoing_36 rfl (lv_at hl 1 rfl) ?_
        exact kl_iret hx hb hr hlocks hP ⟨by rw [hk, show p = 24 by omega], f9, frm⟩ dX4_removeGoing_37
      · refine lv_aload_n hx hb dX4_removeGoing_10 rfl (lv_at hl 0 rfl) ?_
        refine kl_get (C := RX4) (T := TX4) (N := 16) (ci := 4) hx hb hts hinX4 hown hK hP k0 rfl 14 (by decide) (hts (.fieldLink RX4 67 "KinLedger" "going" "[Z") (by decide +kernel)) (fun _ h9 => h9) rfl dX4_removeGoing_11 ?_
        refine lv_iload_n hx hb dX4_removeGoing_14 rfl (lv_at hl 2 rfl) ?_
        refine kl_zald hx hb hK hP k13 (by omega) (by omega) dX4_removeGoing_15 ?_
        refine lv_if_eq (tgt := 30) hx hb dX4_removeGoing_16 (by decide) (fun c16 => ?_) (fun c16 => ?_)
        · refine lv_iinc (v := nI (p + 1)) (lv' := [(2, .int (nI (p + 1))), (0, .ref (B + 0)), (1, .int (nI k))]) hx hb dX4_removeGoing_30 hl (k := 2) rfl (nI_1 _) (by decide) rfl (fun ls hl => ?_)
          refine lv_goto (tgt := 4) hx hb dX4_removeGoing_33 (by decide) ?_
          exact ih4 (p + 1) k tt (by omega) (by first | omega | grind) (by rw [hk]; exact (mt_ct_n (P := fun q => gg q ≠ 0) (fun z => z c16)).symm) ⟨lt_s ht.1 (by rw [ht.2 p (Nat.le_refl _)]; exact (if_pos c16).symm), fun q hq => ht.2 q (by omega)⟩ _ _ _ k0 k13 k9 k10 k11 frm hP ls (lv_sub hl [1, 2, 0] rfl)
        · refine lv_aload_n hx hb dX4_removeGoing_19 rfl (lv_at hl 0 rfl) ?_
          refine kl_get (C := RX4) (T := TX4) (N := 16) (ci := 4) hx hb hts hinX4 hown hK hP k0 rfl 11 (by decide) (hts (.fieldLink RX4 57 "KinLedger" "draft" "LKinLedger$Rows;") (by decide +kernel)) (fun _ h9 => h9) rfl dX4_removeGoing_20 ?_
          refine lv_iload_n hx hb dX4_removeGoing_23 rfl (lv_at hl 2 rfl) ?_
          refine kl_cVv (C := RX2) (i := 9) (As := [.int (nI p)]) (rest := []) ⟨hx, hb, hml, hown, hts⟩ (c_X2_remove l G B _ 9 10 11 p k9 k10 k11 (by omega) (by omega) (by omega)) (cwV 1 hts gX4_removeGoing_X2_remove rfl rfl rfl (by decide +kernel) ⟨Nat.le_of_ble_eq_true rfl, Nat.le_of_ble_eq_true rfl⟩) hK hP k9 rfl rfl hl.1 rfl (Nat.le_of_ble_eq_true rfl) dX4_removeGoing_24 ⟨Nat.le_of_ble_eq_true rfl, Nat.le_of_ble_eq_true rfl⟩ (fun w1 H locs q2 hP => ?_)
          obtain ⟨f4, fr5⟩ := q2
          have f4 : w1 10 = some (kl_aI G 24 (upd tt p (-1))) := f4
          have k0 : w1 0 = some (.inr (4, [.ref (B + 1), .int (nI nT), .ref (B + 2), .int (nI nL), .ref (B + 3), .int (nI nS), .ref (B + 4), .int (nI nC), .ref (B + 5), .int (nI nW), .ref (B + 6), .ref (B + 9), .ref (B + 12), .int (nI nM), .ref (B + 13), .int rs])) := (fr5 _ (by decide)).trans k0
          have k13 : w1 13 = some (kl_aZ G 24 gg) := (fr5 _ (by decide)).trans k13
          have k9 : w1 9 = some (.inr (2, [.ref (B + 10), .ref (B + 11)])) := (fr5 _ (by decide)).trans k9
          have k11 : w1 11 = some (kl_aI G 96 dC) := (fr5 _ (by decide)).trans k11
          have frm : ∀ j : Nat, j ≠ 10 → w1 j = w j := fun j k0 => (fr5 j k0).trans (frm j k0)
          refine lv_iinc (v := nI (k + 1)) (lv' := [(1, .int (nI (k + 1))), (0, .ref (B + 0)), (2, .int (nI p))]) hx hb dX4_removeGoing_27 hl (k := 1) rfl (nI_1 _) (by decide) rfl (fun ls hl => ?_)
          refine lv_iinc (v := nI (p + 1)) (lv' := [(2, .int (nI (p + 1))), (1, .int (nI (k + 1))), (0, .ref (B + 0))]) hx hb dX4_removeGoing_30 hl (k := 2) rfl (nI_1 _) (by decide) rfl (fun ls hl => ?_)
          refine lv_goto (tgt := 4) hx hb dX4_removeGoing_33 (by decide) ?_
          exact ih4 (p + 1) (k + 1) (upd tt p (-1)) (by omega) (by first | omega | grind) (by rw [hk]; exact (mt_ct_y (P := fun q => gg q ≠ 0) c16).symm) ⟨mt_upd_sp (Sp := fun q v => v = mt_rm gg dT q) ht.1 (if_neg c16).symm, fun q hq => by rw [pk_un (by omega)]; exact ht.2 q (by omega)⟩ _ _ _ k0 k13 k9 f4 k11 frm hP ls (lv_sub hl [2, 1, 0] rfl)
  exact lp4 (24 + 1) 0 0 dT (Nat.lt_succ_of_le (by omega)) (by first | omega | grind) rfl ⟨fun q hq => absurd hq (Nat.not_lt_zero q), fun _ _ => rfl⟩ _ _ _ k0 k13 k9 k10 k11 frm hP ls (lv_sub hl [2, 1, 0] rfl)

abbrev rm_X4_loosenFromGoing : Room := { frames := 4, cells := 0, slots := 0, locals := 90 }
set_option maxHeartbeats 4000000 in
set_option maxRecDepth 100000 in
theorem c_X4_loosenFromGoing (l : Launch) (G : kl_G) (B : Nat) (w : kl_M) {nT nW nM : Nat} {rs : Int32} {nL nS nC : Nat} {lf sf cf : Nat → Option Nat} {la : Nat → Nat} {lch : Nat → Int32} {lco : Nat → Nat} {lpa lwy : Nat → Int32} {sa : Nat → Nat} {stb : Nat → Int32} {sco ca cwa cpa : Nat → Nat} {ctb : Nat → Int32} {cln : Nat → Nat} {cwd : Nat → Nat → Nat} {ccol : Nat → Nat} {T C dT dC gg : Nat → Int32} (k0 : w 0 = some (.inr (4, [.ref (B + 1), .int (nI nT), .ref (B + 2), .int (nI nL), .ref (B + 3), .int (nI nS), .ref (B + 4), .int (nI nC), .ref (B + 5), .int (nI nW), .ref (B + 6), .ref (B + 9), .ref (B + 12), .int (nI nM), .ref (B + 13), .int rs]))) (k2 : w 2 = some (kl_aR G 3 6 lf)) (k13 : w 13 = some (kl_aZ G 24 gg)) (k6 : w 6 = some (.inr (2, [.ref (B + 7), .ref (B + 8)]))) (k7 : w 7 = some (kl_aI G 24 T)) (k8 : w 8 = some (kl_aI G 96 C)) (k9 : w 9 = some (.inr (2, [.ref (B + 10), .ref (B + 11)]))) (k10 : w 10 = some (kl_aI G 24 dT)) (k11 : w 11 = some (kl_aI G 96 dC)) (hru : kl_RU G B w nL lf la lch lco lpa lwy nS sf sa stb sco nC cf ca cwa cpa ctb cln cwd ccol) (hn : nL ≤ 6) (hu : mt_uniq T C) (hpar : ∀ l, l < nL → lpa l ≠ -1) : Met l yX4_loosenFromGoing wsX4_loosenFromGoing rm_X4_loosenFromGoing (kl_Pc G B w [.ref (B + 0)]) (kl_Qi G B (fun r w1 => (∃ g2, w1 11 = some (kl_aI G 96 g2) ∧ mt_wr 24 (fun l _ => l < nL) (fun l p => lwy l = nI 2 ∧ gg p = 0 ∧ mt_lost T C gg (lch l) (lco l) (lpa l) p) lco (fun _ => nI 0) dC g2) ∧ mt_kp 24 (fun l _ => l < nL) (fun l p => lwy l = 0 ∧ gg p = 0 ∧ mt_lost T C gg (lch l) (lco l) (lpa l) p) r ∧ ∀ j, j ≠ 11 → w1 j = w j)) 0 0 (kl_fr B) := by
  refine Met.ofW (cc := cX4_loosenFromGoing) (maxL := 4) (ret := (some .int)) (by decide) rfl ?_
  intro pg e s m args below meth cd s₁ Bd hml hv
  obtain ⟨rfl, hP0, hK⟩ := hv
  have hx := Bd.exec
  have hb := Bd.bytes
  have hr := Bd.returns
  have hts := atoms_spec (ws := wsX4_loosenFromGoing) Bd.pre
  have hown : s.vm.findClass RX4 = some m.cls := findClass_of_methodNamed Bd.named
  have hlocks := Bd.notSynchronized
  have hinX1 : ∀ w ∈ u_ws RX1 TX1 4, w ∈ wsX4_loosenFromGoing := by decide +kernel
  have hinX4 : ∀ w ∈ u_ws RX4 TX4 16, w ∈ wsX4_loosenFromGoing := by decide +kernel
  have hP := kl_S.rf hP0
  have hl := lv_entry ([.ref (B + 0)]) (n := 4) (Nat.le_of_ble_eq_true rfl)
  rw [lg_entry_eq]
  generalize (lg_sl ([.ref (B + 0)]) ++ List.replicate (4 - (lg_sl ([.ref (B + 0)])).length) Slot.unset).toArray = ls at hl ⊢
  have hl : lv_has ls 4 [(0, .ref (B + 0))] := hl
  have frm : ∀ j : Nat, j ≠ 11 → w j = w j := fun j _ => rfl
  refine lv_iconst (v := (-1)) hx hb dX4_loosenFromGoing_0 (by decide) ?_
  refine lv_istore_n (lv' := [(1, .int ((-1))), (0, .ref (B + 0))]) hx hb dX4_loosenFromGoing_1 rfl hl (by decide) rfl (fun ls hl => ?_)
  refine lv_aload_n hx hb dX4_loosenFromGoing_2 rfl (lv_at hl 1 rfl) ?_
  refine kl_get (C := RX4) (T := TX4) (N := 16) (ci := 4) hx hb hts hinX4 hown hK hP k0 rfl 3 (by decide) (hts (.fieldLink RX4 23 "KinLedger" "linkCount" "I") (by decide +kernel)) (fun _ h9 => h9) rfl dX4_loosenFromGoing_3 ?_
  refine lv_iconst (v := nI 1) hx hb dX4_loosenFromGoing_6 (by decide) ?_
  refine lv_isub hx hb dX4_loosenFromGoing_7 ?_
  refine lv_istore_n (lv' := [(2, .int (nI nL - nI 1)), (1, .int ((-1))), (0, .ref (B + 0))]) hx hb dX4_loosenFromGoing_8 rfl hl (by decide) rfl (fun ls hl => ?_)
  have lp9 : ∀ (n9 : Nat) (k : Nat) (kv : Int32) (g : Nat → Int32), k < n9 → (k ≤ nL) → (mt_wr 24 (fun l p => k ≤ l ∧ l < nL) (fun l p => lwy l = nI 2 ∧ gg p = 0 ∧ mt_lost T C gg (lch l) (lco l) (lpa l) p) lco (fun _ => nI 0) dC g) → (mt_kp 24 (fun l p => k ≤ l ∧ l < nL) (fun l p => lwy l = 0 ∧ gg p = 0 ∧ mt_lost T C gg (lch l) (lco l) (lpa l) p) kv) → ∀ (w1 : kl_M) (H : Heap) (locs : List Loc), w1 0 = some (.inr (4, [.ref (B + 1), .int (nI nT), .ref (B + 2), .int (nI nL), .ref (B + 3), .int (nI nS), .ref (B + 4), .int (nI nC), .ref (B + 5), .int (nI nW), .ref (B + 6), .ref (B + 9), .ref (B + 12), .int (nI nM), .ref (B + 13), .int rs])) → w1 2 = some (kl_aR G 3 6 lf) → w1 13 = some (kl_aZ G 24 gg) → w1 6 = some (.inr (2, [.ref (B + 7), .ref (B + 8)])) → w1 7 = some (kl_aI G 24 T) → w1 8 = some (kl_aI G 96 C) → w1 9 = some (.inr (2, [.ref (B + 10), .ref (B + 11)])) → w1 10 = some (kl_aI G 24 dT) → w1 11 = some (kl_aI G 96 g) → (kl_RU G B w1 nL lf la lch lco lpa lwy nS sf sa stb sco nC cf ca cwa cpa ctb cln cwd ccol) → (∀ j : Nat, j ≠ 11 → w1 j = w j) → kl_S G B w1 s.heap H locs → ∀ ls : Array Slot, lv_has ls 4 [(0, .ref (B + 0)), (1, .int kv), (2, .int (nI k - nI 1))] → W pg l e rm_X4_loosenFromGoing s m ([.ref (B + 0)] : List Value).toArray below meth cd H locs (0) (0) (MQ below (kl_Qi G B (fun r w1 => (∃ g2, w1 11 = some (kl_aI G 96 g2) ∧ mt_wr 24 (fun l _ => l < nL) (fun l p => lwy l = nI 2 ∧ gg p = 0 ∧ mt_lost T C gg (lch l) (lco l) (lpa l) p) lco (fun _ => nI 0) dC g2) ∧ mt_kp 24 (fun l _ => l < nL) (fun l p => lwy l = 0 ∧ gg p = 0 ∧ mt_lost T C gg (lch l) (lco l) (lpa l) p) r ∧ ∀ j, j ≠ 11 → w1 j = w j)) ([.ref (B + 0)] : List Value).toArray s 0 0 (kl_fr B)) (F0 m 9 ls []) := by
    intro n9
    induction n9 with
    | zero => intro k kv g hm; exact absurd hm (Nat.not_lt_zero _)
    | succ n9 ih9 =>
      intro k kv g hm hk hw hkp w1 H locs k0 k2 k13 k6 k7 k8 k9 k10 k11 hru frm hP ls hl
      rcases k with _ | k
      · refine lv_iload_n hx hb dX4_loosenFromGoing_9 rfl (lv_at hl 2 rfl) ?_
        refine lv_if_lt (tgt := 107) hx hb dX4_loosenFromGoing_10 (by decide) (fun c10 => ?_) (fun c10 => absurd (by decide) c10)
        refine lv_iload_n hx hb dX4_loosenFromGoing_107 rfl (lv_at hl 1 rfl) ?_
        exact kl_iret hx hb hr hlocks hP ⟨⟨g, k11, hw.same (fun l p hp => by omega)⟩, hkp.same (fun l p hp => by omega), frm⟩ dX4_loosenFromGoing_108
      · rw [mt_pred k] at hl
        refine lv_iload_n hx hb dX4_loosenFromGoing_9 rfl (lv_at hl 2 rfl) ?_
        refine kl_z_lt (tgt := 107) hx hb (by omega) dX4_loosenFromGoing_10 (by decide) ?_
        refine lv_iconst (v := nI 0) hx hb dX4_loosenFromGoing_13 (by decide) ?_
        refine lv_istore_n (lv' := [(3, .int (nI 0)), (0, .ref (B + 0)), (1, .int kv), (2, .int (nI k))]) hx hb dX4_loosenFromGoing_14 rfl hl (by decide) rfl (fun ls hl => ?_)
        have lp15 : ∀ (n15 : Nat) (x : Nat) (kv : Int32) (g : Nat → Int32), 24 - x < n15 → (x ≤ 24) → (mt_wr 24 (fun l p => (k < l ∧ l < nL) ∨ (l = k ∧ p < x)) (fun l p => lwy l = nI 2 ∧ gg p = 0 ∧ mt_lost T C gg (lch l) (lco l) (lpa l) p) lco (fun _ => nI 0) dC g) → (mt_kp 24 (fun l p => (k < l ∧ l < nL) ∨ (l = k ∧ p < x)) (fun l p => lwy l = 0 ∧ gg p = 0 ∧ mt_lost T C gg (lch l) (lco l) (lpa l) p) kv) → ∀ (w1 : kl_M) (H : Heap) (locs : List Loc), w1 0 = some (.inr (4, [.ref (B + 1), .int (nI nT), .ref (B + 2), .int (nI nL), .ref (B + 3), .int (nI nS), .ref (B + 4), .int (nI nC), .ref (B + 5), .int (nI nW), .ref (B + 6), .ref (B + 9), .ref (B + 12), .int (nI nM), .ref (B + 13), .int rs])) → w1 2 = some (kl_aR G 3 6 lf) → w1 13 = some (kl_aZ G 24 gg) → w1 6 = some (.inr (2, [.ref (B + 7), .ref (B + 8)])) → w1 7 = some (kl_aI G 24 T) → w1 8 = some (kl_aI G 96 C) → w1 9 = some (.inr (2, [.ref (B + 10), .ref (B + 11)])) → w1 10 = some (kl_aI G 24 dT) → w1 11 = some (kl_aI G 96 g) → (kl_RU G B w1 nL lf la lch lco lpa lwy nS sf sa stb sco nC cf ca cwa cpa ctb cln cwd ccol) → (∀ j : Nat, j ≠ 11 → w1 j = w j) → kl_S G B w1 s.heap H locs → ∀ ls : Array Slot, lv_has ls 4 [(0, .ref (B + 0)), (1, .int kv), (2, .int (nI k)), (3, .int (nI x))] → W pg l e rm_X4_loosenFromGoing s m ([.ref (B + 0)] : List Value).toArray below meth cd H locs (0) (0) (MQ below (kl_Qi G B (fun r w1 => (∃ g2, w1 11 = some (kl_aI G 96 g2) ∧ mt_wr 24 (fun l _ => l < nL) (fun l p => lwy l = nI 2 ∧ gg p = 0 ∧ mt_lost T C gg (lch l) (lco l) (lpa l) p) lco (fun _ => nI 0) dC g2) ∧ mt_kp 24 (fun l _ => l < nL) (fun l p => lwy l = 0 ∧ gg p = 0 ∧ mt_lost T C gg (lch l) (lco l) (lpa l) p) r ∧ ∀ j, j ≠ 11 → w1 j = w j)) ([.ref (B + 0)] : List Value).toArray s 0 0 (kl_fr B)) (F0 m 15 ls []) := by
          intro n15
          induction n15 with
          | zero => intro x kv g hm; exact absurd hm (Nat.not_lt_zero _)
          | succ n15 ih15 =>
            intro x kv g hm hx9 hw hkp w1 H locs k0 k2 k13 k6 k7 k8 k9 k10 k11 hru frm hP ls hl
            refine lv_iload_n hx hb dX4_loosenFromGoing_15 rfl (lv_at hl 3 rfl) ?_
            refine lv_bipush (v := nI 24) hx hb dX4_loosenFromGoing_16 (by decide) ?_
            refine kl_ge (tgt := 101) hx hb (by omega) (by omega) dX4_loosenFromGoing_18 (by decide) (fun c18 => ?_) (fun c18 => ?_)
            · refine lv_iinc (v := nI k - nI 1) (lv' := [(2, .int (nI k - nI 1)), (0, .ref (B + 0)), (1, .int kv), (3, .int (nI x))]) hx hb dX4_loosenFromGoing_101 hl (k := 2) rfl (mt_dec _) (by decide) rfl (fun ls hl => ?_)
              refine lv_goto (tgt := 9) hx hb dX4_loosenFromGoing_104 (by decide) ?_
              exact ih9 k kv g (by omega) (by first | omega | grind) (hw.same (fun l p hp => by omega)) (hkp.same (fun l p hp => by omega)) _ _ _ k0 k2 k13 k6 k7 k8 k9 k10 k11 hru frm hP ls (lv_sub hl [1, 2, 0] rfl)
            · refine lv_aload_n hx hb dX4_loosenFromGoing_21 rfl (lv_at hl 0 rfl) ?_
              refine kl_get (C := RX4) (T := TX4) (N := 16) (ci := 4) hx hb hts hinX4 hown hK hP k0 rfl 14 (by decide) (hts (.fieldLink RX4 67 "KinLedger" "going" "[Z") (by decide +kernel)) (fun _ h9 => h9) rfl dX4_loosenFromGoing_22 ?_
              refine lv_iload_n hx hb dX4_loosenFromGoing_25 rfl (lv_at hl 3 rfl) ?_
              refine kl_zald hx hb hK hP k13 (by omega) (by omega) dX4_loosenFromGoing_26 ?_
              refine lv_if_ne (tgt := 95) hx hb dX4_loosenFromGoing_27 (by decide) (fun c27 => ?_) (fun c27 => ?_)
              · refine lv_iinc (v := nI (x + 1)) (lv' := [(3, .int (nI (x + 1))), (0, .ref (B + 0)), (1, .int kv), (2, .int (nI k))]) hx hb dX4_loosenFromGoing_95 hl (k := 3) rfl (nI_1 _) (by decide) rfl (fun ls hl => ?_)
                refine lv_goto (tgt := 15) hx hb dX4_loosenFromGoing_98 (by decide) ?_
                exact ih15 (x + 1) kv g (by omega) (by first | omega | grind) (hw.no (l0 := k) (x := x) (fun l p hp => by omega) (fun z => c27 z.2.1)) (hkp.no (l0 := k) (x := x) (fun l p hp => by omega) (fun z => c27 z.2.1)) _ _ _ k0 k2 k13 k6 k7 k8 k9 k10 k11 hru frm hP ls (lv_sub hl [1, 2, 3, 0] rfl)
              · refine lv_aload_n hx hb dX4_loosenFromGoing_30 rfl (lv_at hl 0 rfl) ?_
                refine lv_aload_n hx hb dX4_loosenFromGoing_31 rfl (lv_at hl 0 rfl) ?_
                refine kl_get (C := RX4) (T := TX4) (N := 16) (ci := 4) hx hb hts hinX4 hown hK hP k0 rfl 2 (by decide) (hts (.fieldLink RX4 19 "KinLedger" "links" "[LKinLedger$Link;") (by decide +kernel)) (fun _ h9 => h9) rfl dX4_loosenFromGoing_32 ?_
                refine lv_iload_n hx hb dX4_loosenFromGoing_35 rfl (lv_at hl 2 rfl) ?_
                obtain ⟨el1a, el1b, ⟨el1c, el1d⟩, el1e⟩ := hru.1 k (by omega)
                refine kl_aald hx hb hK hP 3 (k0 := 3) k2 rfl (by omega) (by omega) el1a dX4_loosenFromGoing_36 ?_
                refine lv_iload_n hx hb dX4_loosenFromGoing_37 rfl (lv_at hl 3 rfl) ?_
                refine kl_cVi (C := RX4) (i := 0) (As := [.ref (B + (la k)), .int (nI x)]) (rest := []) ⟨hx, hb, hml, hown, hts⟩ (c_X4_losesTarget l G B _ (la k) x k0 k13 k6 k7 k8 el1e (by omega) (by omega) (hpar k (by omega)) hu) (cwV 2 hts gX4_loosenFromGoing_X4_losesTarget rfl rfl rfl (by decide +kernel) ⟨Nat.le_of_ble_eq_true rfl, Nat.le_of_ble_eq_true rfl⟩) hK hP k0 rfl rfl hl.1 rfl (Nat.le_of_ble_eq_true rfl) dX4_loosenFromGoing_38 ⟨Nat.le_of_ble_eq_true rfl, Nat.le_of_ble_eq_true rfl⟩ (fun r4 w2 H locs q3 hP => ?_)
                obtain ⟨rfl, hv5⟩ := q3
                refine kl_ifne (tgt := 47) hx hb hv5 dX4_loosenFromGoing_41 (by decide) (fun c41 => ?_) (fun c41 => ?_)
                · refine lv_aload_n hx hb dX4_loosenFromGoing_47 rfl (lv_at hl 0 rfl) ?_
                  refine kl_get (C := RX4) (T := TX4) (N := 16) (ci := 4) hx hb hts hinX4 hown hK hP k0 rfl 2 (by decide) (hts (.fieldLink RX4 19 "KinLedger" "links" "[LKinLedger$Link;") (by decide +kernel)) (fun _ h9 => h9) rfl dX4_loosenFromGoing_48 ?_
                  refine lv_iload_n hx hb dX4_loosenFromGoing_51 rfl (lv_at hl 2 rfl) ?_
                  obtain ⟨el6a, el6b, ⟨el6c, el6d⟩, el6e⟩ := hru.1 k (by omega)
                  refine kl_aald hx hb hK hP 3 (k0 := 3) k2 rfl (by omega) (by omega) el6a dX4_loosenFromGoing_52 ?_
                  refine kl_get (C := RX1) (T := TX1) (N := 4) (ci := 1) hx hb hts hinX1 hown hK hP el6e rfl 3 (by decide) (hts (.fieldLink RX4 202 "KinLedger$Link" "way" "I") (by decide +kernel)) (fun _ h9 => h9) rfl dX4_loosenFromGoing_53 ?_
                  refine lv_if_ne (tgt := 64) hx hb dX4_loosenFromGoing_56 (by decide) (fun c56 => ?_) (fun c56 => ?_)
                  · refine lv_aload_n hx hb dX4_loosenFromGoing_64 rfl (lv_at hl 0 rfl) ?_
                    refine kl_get (C := RX4) (T := TX4) (N := 16) (ci := 4) hx hb hts hinX4 hown hK hP k0 rfl 2 (by decide) (hts (.fieldLink RX4 19 "KinLedger" "links" "[LKinLedger$Link;") (by decide +kernel)) (fun _ h9 => h9) rfl dX4_loosenFromGoing_65 ?_
                    refine lv_iload_n hx hb dX4_loosenFromGoing_68 rfl (lv_at hl 2 rfl) ?_
                    obtain ⟨el7a, el7b, ⟨el7c, el7d⟩, el7e⟩ := hru.1 k (by omega)
                    refine kl_aald hx hb hK hP 3 (k0 := 3) k2 rfl (by omega) (by omega) el7a dX4_loosenFromGoing_69 ?_
                    refine kl_get (C := RX1) (T := TX1) (N := 4) (ci := 1) hx hb hts hinX1 hown hK hP el7e rfl 3 (by decide) (hts (.fieldLink RX4 202 "KinLedger$Link" "way" "I") (by decide +kernel)) (fun _ h9 => h9) rfl dX4_loosenFromGoing_70 ?_
                    refine lv_iconst (v := nI 2) hx hb dX4_loosenFromGoing_73 (by decide) ?_
                    refine lv_icmp_ne (tgt := 95) hx hb dX4_loosenFromGoing_74 (by decide) (fun c74 => ?_) (fun c74 => ?_)
                    · refine lv_iinc (v := nI (x + 1)) (lv' := [(3, .int (nI (x + 1))), (0, .ref (B + 0)), (1, .int kv), (2, .int (nI k))]) hx hb dX4_loosenFromGoing_95 hl (k := 3) rfl (nI_1 _) (by decide) rfl (fun ls hl => ?_)
                      refine lv_goto (tgt := 15) hx hb dX4_loosenFromGoing_98 (by decide) ?_
                      exact ih15 (x + 1) kv g (by omega) (by first | omega | grind) (hw.no (l0 := k) (x := x) (fun l p hp => by omega) (fun z => c74 z.1)) (hkp.no (l0 := k) (x := x) (fun l p hp => by omega) (fun z => c56 z.1)) _ _ _ k0 k2 k13 k6 k7 k8 k9 k10 k11 hru frm hP ls (lv_sub hl [1, 2, 3, 0] rfl)
                    · refine lv_aload_n hx hb dX4_loosenFromGoing_77 rfl (lv_at hl 0 rfl) ?_
                      refine kl_get (C := RX4) (T := TX4) (N := 16) (ci := 4) hx hb hts hinX4 hown hK hP k0 rfl 11 (by decide) (hts (.fieldLink RX4 57 "KinLedger" "draft" "LKinLedger$Rows;") (by decide +kernel)) (fun _ h9 => h9) rfl dX4_loosenFromGoing_78 ?_
                      refine lv_iload_n hx hb dX4_loosenFromGoing_81 rfl (lv_at hl 3 rfl) ?_
                      refine lv_aload_n hx hb dX4_loosenFromGoing_82 rfl (lv_at hl 0 rfl) ?_
                      refine kl_get (C := RX4) (T := TX4) (N := 16) (ci := 4) hx hb hts hinX4 hown hK hP k0 rfl 2 (by decide) (hts (.fieldLink RX4 19 "KinLedger" "links" "[LKinLedger$Link;") (by decide +kernel)) (fun _ h9 => h9) rfl dX4_loosenFromGoing_83 ?_
                      refine lv_iload_n hx hb dX4_loosenFromGoing_86 rfl (lv_at hl 2 rfl) ?_
                      obtain ⟨el8a, el8b, ⟨el8c, el8d⟩, el8e⟩ := hru.1 k (by omega)
                      refine kl_aald hx hb hK hP 3 (k0 := 3) k2 rfl (by omega) (by omega) el8a dX4_loosenFromGoing_87 ?_
                      refine kl_get (C := RX1) (T := TX1) (N := 4) (ci := 1) hx hb hts hinX1 hown hK hP el8e rfl 1 (by decide) (hts (.fieldLink RX4 212 "KinLedger$Link" "column" "I") (by decide +kernel)) (fun _ h9 => h9) rfl dX4_loosenFromGoing_88 ?_
                      refine lv_iconst (v := nI 0) hx hb dX4_loosenFromGoing_91 (by decide) ?_
                      refine kl_cVv (C := RX2) (i := 9) (As := [.int (nI x), .int (nI (lco k)), .int (nI 0)]) (rest := []) ⟨hx, hb, hml, hown, hts⟩ (c_X2_put l G B _ 9 10 11 x (lco k) (nI 0) k9 k10 k11 (by omega) (by omega) (by omega) (by omega)) (cwV 3 hts gX4_loosenFromGoing_X2_put rfl rfl rfl (by decide +kernel) ⟨Nat.le_of_ble_eq_true rfl, Nat.le_of_ble_eq_true rfl⟩) hK hP k9 rfl rfl hl.1 rfl (Nat.le_of_ble_eq_true rfl) dX4_loosenFromGoing_92 ⟨Nat.le_of_ble_eq_true rfl, Nat.le_of_ble_eq_true rfl⟩ (fun w9 H locs q10 hP => ?_)
                      obtain ⟨f12, fr13⟩ := q10
                      have f12 : w9 11 = some (kl_aI G 96 (upd g (4 * x + lco k) (nI 0))) := f12
                      have k0 : w9 0 = some (.inr (4, [.ref (B + 1), .int (nI nT), .ref (B + 2), .int (nI nL), .ref (B + 3), .int (nI nS), .ref (B + 4), .int (nI nC), .ref (B + 5), .int (nI nW), .ref (B + 6), .ref (B + 9), .ref (B + 12), .int (nI nM), .ref (B + 13), .int rs])) := (fr13 _ (by decide)).trans k0
                      have k2 : w9 2 = some (kl_aR G 3 6 lf) := (fr13 _ (by decide)).trans k2
                      have k13 : w9 13 = some (kl_aZ G 24 gg) := (fr13 _ (by decide)).trans k13
                      have k6 : w9 6 = some (.inr (2, [.ref (B + 7), .ref (B + 8)])) := (fr13 _ (by decide)).trans k6
                      have k7 : w9 7 = some (kl_aI G 24 T) := (fr13 _ (by decide)).trans k7
                      have k8 : w9 8 = some (kl_aI G 96 C) := (fr13 _ (by decide)).trans k8
                      have k9 : w9 9 = some (.inr (2, [.ref (B + 10), .ref (B + 11)])) := (fr13 _ (by decide)).trans k9
                      have k10 : w9 10 = some (kl_aI G 24 dT) := (fr13 _ (by decide)).trans k10
                      have el8e : w9 (la k) = some (.inr (1, [.int (lch k), .int (nI (lco k)), .int (lpa k), .int (lwy k)])) := (fr13 _ (by omega)).trans el8e
                      have hru := kl_RU.mv hru (fun j hj => fr13 j (by omega))
                      have frm : ∀ j : Nat, j ≠ 11 → w9 j = w j := fun j k0 => (fr13 j k0).trans (frm j k0)
                      refine lv_iinc (v := nI (x + 1)) (lv' := [(3, .int (nI (x + 1))), (0, .ref (B + 0)), (1, .int kv), (2, .int (nI k))]) hx hb dX4_loosenFromGoing_95 hl (k := 3) rfl (nI_1 _) (by decide) rfl (fun ls hl => ?_)
                      refine lv_goto (tgt := 15) hx hb dX4_loosenFromGoing_98 (by decide) ?_
                      exact ih15 (x + 1) kv (upd g (4 * x + lco k) (nI 0)) (by omega) (by first | omega | grind) (hw.put (l0 := k) (x := x) rfl (by omega) (fun l p hp => by omega) (fun l z => by omega) ⟨c74, c27, c41⟩ (by omega)) (hkp.no (l0 := k) (x := x) (fun l p hp => by omega) (fun z => c56 z.1)) _ _ _ k0 k2 k13 k6 k7 k8 k9 k10 f12 hru frm hP ls (lv_sub hl [1, 2, 3, 0] rfl)
                  · refine lv_iload_n hx hb dX4_loosenFromGoing_59 rfl (lv_at hl 2 rfl) ?_
                    refine lv_istore_n (lv' := [(1, .int (nI k)), (0, .ref (B + 0)), (2, .int (nI k)), (3, .int (nI x))]) hx hb dX4_loosenFromGoing_60 rfl hl (by decide) rfl (fun ls hl => ?_)
                    refine lv_goto (tgt := 95) hx hb dX4_loosenFromGoing_61 (by decide) ?_
                    refine lv_iinc (v := nI (x + 1)) (lv' := [(3, .int (nI (x + 1))), (1, .int (nI k)), (0, .ref (B + 0)), (2, .int (nI k))]) hx hb dX4_loosenFromGoing_95 hl (k := 3) rfl (nI_1 _) (by decide) rfl (fun ls hl => ?_)
                    refine lv_goto (tgt := 15) hx hb dX4_loosenFromGoing_98 (by decide) ?_
                    exact ih15 (x + 1) (nI k) g (by omega) (by first | omega | grind) (hw.no (l0 := k) (x := x) (fun l p hp => by omega) (fun z => by have z1 := z.1; rw [c56] at z1; exact absurd z1 (by decide))) (mt_kp.yes (D := (fun l p => (k < l ∧ l < nL) ∨ (l = k ∧ p < x))) (l0 := k) (x := x) (by omega) (fun l p hp => by omega) (fun l p hp z => by omega) ⟨c56, c27, c41⟩) _ _ _ k0 k2 k13 k6 k7 k8 k9 k10 k11 hru frm hP ls (lv_sub hl [2, 1, 3, 0] rfl)
                · refine lv_goto (tgt := 95) hx hb dX4_loosenFromGoing_44 (by decide) ?_
                  refine lv_iinc (v := nI (x + 1)) (lv' := [(3, .int (nI (x + 1))), (0, .ref (B + 0)), (1, .int kv), (2, .int (nI k))]) hx hb dX4_loosenFromGoing_95 hl (k := 3) rfl (nI_1 _) (by decide) rfl (fun ls hl => ?_)
                  refine lv_goto (tgt := 15) hx hb dX4_loosenFromGoing_98 (by decide) ?_
                  exact ih15 (x + 1) kv g (by omega) (by first | omega | grind) (hw.no (l0 := k) (x := x) (fun l p hp => by omega) (fun z => c41 z.2.2)) (hkp.no (l0 := k) (x := x) (fun l p hp => by omega) (fun z => c41 z.2.2)) _ _ _ k0 k2 k13 k6 k7 k8 k9 k10 k11 hru frm hP ls (lv_sub hl [1, 2, 3, 0] rfl)
        exact lp15 (24 + 1) 0 kv g (Nat.lt_succ_of_le (by omega)) (by first | omega | grind) (hw.same (fun l p hp => by omega)) (hkp.same (fun l p hp => by omega)) _ _ _ k0 k2 k13 k6 k7 k8 k9 k10 k11 hru frm hP ls (lv_sub hl [1, 2, 3, 0] rfl)
  exact lp9 (nL + 1) nL ((-1)) dC (Nat.lt_succ_of_le (by omega)) (by first | omega | grind) (mt_wr.rf (fun l p hp z => by omega)) (mt_kp.rf (fun l p hp z => by omega)) _ _ _ k0 k2 k13 k6 k7 k8 k9 k10 k11 hru frm hP ls (lv_sub hl [2, 1, 0] rfl)

abbrev rm_X4_passOnKey : Room := { frames := 3, cells := 0, slots := 0, locals := 67 }
set_option maxHeartbeats 4000000 in
set_option maxRecDepth 100000 in
theorem c_X4_passOnKey (l : Launch) (G : kl_G) (B : Nat) (w : kl_M) {nT nW nM : Nat} {rs : Int32} {nL nS nC : Nat} {lf sf cf : Nat → Option Nat} {la : Nat → Nat} {lch : Nat → Int32} {lco : Nat → Nat} {lpa lwy : Nat → Int32} {sa : Nat → Nat} {stb : Nat → Int32} {sco ca cwa cpa : Nat → Nat} {ctb : Nat → Int32} {cln : Nat → Nat} {cwd : Nat → Nat → Nat} {ccol : Nat → Nat} {T C dT dC : Nat → Int32} (ch : Nat) (key : Int32) (k0 : w 0 = some (.inr (4, [.ref (B + 1), .int (nI nT), .ref (B + 2), .int (nI nL), .ref (B + 3), .int (nI nS), .ref (B + 4), .int (nI nC), .ref (B + 5), .int (nI nW), .ref (B + 6), .ref (B + 9), .ref (B + 12), .int (nI nM), .ref (B + 13), .int rs]))) (k2 : w 2 = some (kl_aR G 3 6 lf)) (k6 : w 6 = some (.inr (2, [.ref (B + 7), .ref (B + 8)]))) (k7 : w 7 = some (kl_aI G 24 T)) (k8 : w 8 = some (kl_aI G 96 C)) (k9 : w 9 = some (.inr (2, [.ref (B + 10), .ref (B + 11)]))) (k10 : w 10 = some (kl_aI G 24 dT)) (k11 : w 11 = some (kl_aI G 96 dC)) (hru : kl_RU G B w nL lf la lch lco lpa lwy nS sf sa stb sco nC cf ca cwa cpa ctb cln cwd ccol) (hn : nL ≤ 6) (hch : ch < 24) (hu : mt_uniq T C) (hpar : ∀ l, l < nL → lpa l ≠ -1) : Met l yX4_passOnKey wsX4_passOnKey rm_X4_passOnKey (kl_Pc G B w [.ref (B + 0), .int (nI ch), .int key]) (kl_Qi G B (fun r w1 => (∃ g2, w1 11 = some (kl_aI G 96 g2) ∧ mt_wr 24 (fun l _ => l < nL) (fun l p => lwy l ≠ 0 ∧ mt_ref T C (lch l) (lco l) (lpa l) p ch) lco (fun l => if lwy l = nI 1 then key else nI 0) dC g2) ∧ mt_kp 24 (fun l _ => l < nL) (fun l p => lwy l = 0 ∧ mt_ref T C (lch l) (lco l) (lpa l) p ch) r ∧ ∀ j, j ≠ 11 → w1 j = w j)) 0 0 (kl_fr B) := by
  refine Met.ofW (cc := cX4_passOnKey) (maxL := 6) (ret := (some .int)) (by decide) rfl ?_
  intro pg e s m args below meth cd s₁ Bd hml hv
  obtain ⟨rfl, hP0, hK⟩ := hv
  have hx := Bd.exec
  have hb := Bd.bytes
  have hr := Bd.returns
  have hts := atoms_spec (ws := wsX4_passOnKey) Bd.pre
  have hown : s.vm.findClass RX4 = some m.cls := findClass_of_methodNamed Bd.named
  have hlocks := Bd.notSynchronized
  have hinX1 : ∀ w ∈ u_ws RX1 TX1 4, w ∈ wsX4_passOnKey := by decide +kernel
  have hinX4 : ∀ w ∈ u_ws RX4 TX4 16, w ∈ wsX4_passOnKey := by decide +kernel
  have hP := kl_S.rf hP0
  have hl := lv_entry ([.ref (B + 0), .int (nI ch), .int key]) (n := 6) (Nat.le_of_ble_eq_true rfl)
  rw [lg_entry_eq]
  generalize (lg_sl ([.ref (B + 0), .int (nI ch), .int key]) ++ List.replicate (6 - (lg_sl ([.ref (B + 0), .int (nI ch), .int key])).length) Slot.unset).toArray = ls at hl ⊢
  have hl : lv_has ls 6 [(0, .ref (B + 0)), (1, .int (nI ch)), (2, .int key)] := hl
  have frm : ∀ j : Nat, j ≠ 11 → w j = w j := fun j _ => rfl
  refine lv_iconst (v := (-1)) hx hb dX4_passOnKey_0 (by decide) ?_
  refine lv_istore_n (lv' := [(3, .int ((-1))), (0, .ref (B + 0)), (1, .int (nI ch)), (2, .int key)]) hx hb dX4_passOnKey_1 rfl hl (by decide) rfl (fun ls hl => ?_)
  refine lv_aload_n hx hb dX4_passOnKey_2 rfl (lv_at hl 1 rfl) ?_
  refine kl_get (C := RX4) (T := TX4) (N := 16) (ci := 4) hx hb hts hinX4 hown hK hP k0 rfl 3 (by decide) (hts (.fieldLink RX4 23 "KinLedger" "linkCount" "I") (by decide +kernel)) (fun _ h9 => h9) rfl dX4_passOnKey_3 ?_
  refine lv_iconst (v := nI 1) hx hb dX4_passOnKey_6 (by decide) ?_
  refine lv_isub hx hb dX4_passOnKey_7 ?_
  refine lv_istore (lv' := [(4, .int (nI nL - nI 1)), (3, .int ((-1))), (0, .ref (B + 0)), (1, .int (nI ch)), (2, .int key)]) hx hb dX4_passOnKey_8 hl (by decide) rfl (fun ls hl => ?_)
  have lp10 : ∀ (n10 : Nat) (k : Nat) (kv : Int32) (g : Nat → Int32), k < n10 → (k ≤ nL) → (mt_wr 24 (fun l p => k ≤ l ∧ l < nL) (fun l p => lwy l ≠ 0 ∧ mt_ref T C (lch l) (lco l) (lpa l) p ch) lco (fun l => if lwy l = nI 1 then key else nI 0) dC g) → (mt_kp 24 (fun l p => k ≤ l ∧ l < nL) (fun l p => lwy l = 0 ∧ mt_ref T C (lch l) (lco l) (lpa l) p ch) kv) → ∀ (w1 : kl_M) (H : Heap) (locs : List Loc), w1 0 = some (.inr (4, [.ref (B + 1), .int (nI nT), .ref (B + 2), .int (nI nL), .ref (B + 3), .int (nI nS), .ref (B + 4), .int (nI nC), .ref (B + 5), .int (nI nW), .ref (B + 6), .ref (B + 9), .ref (B + 12), .int (nI nM), .ref (B + 13), .int rs])) → w1 2 = some (kl_aR G 3 6 lf) → w1 6 = some (.inr (2, [.ref (B + 7), .ref (B + 8)])) → w1 7 = some (kl_aI G 24 T) → w1 8 = some (kl_aI G 96 C) → w1 9 = some (.inr (2, [.ref (B + 10), .ref (B + 11)])) → w1 10 = some (kl_aI G 24 dT) → w1 11 = some (kl_aI G 96 g) → (kl_RU G B w1 nL lf la lch lco lpa lwy nS sf sa stb sco nC cf ca cwa cpa ctb cln cwd ccol) → (∀ j : Nat, j ≠ 11 → w1 j = w j) → kl_S G B w1 s.heap H locs → ∀ ls : Array Slot, lv_has ls 6 [(0, .ref (B + 0)), (1, .int (nI ch)), (2, .int key), (3, .int kv), (4, .int (nI k - nI 1))] → W pg l e rm_X4_passOnKey s m ([.ref (B + 0), .int (nI ch), .int key] : List Value).toArray below meth cd H locs (0) (0) (MQ below (kl_Qi G B (fun r w1 => (∃ g2, w1 11 = some (kl_aI G 96 g2) ∧ mt_wr 24 (fun l _ => l < nL) (fun l p => lwy l ≠ 0 ∧ mt_ref T C (lch l) (lco l) (lpa l) p ch) lco (fun l => if lwy l = nI 1 then key else nI 0) dC g2) ∧ mt_kp 24 (fun l _ => l < nL) (fun l p => lwy l = 0 ∧ mt_ref T C (lch l) (lco l) (lpa l) p ch) r ∧ ∀ j, j ≠ 11 → w1 j = w j)) ([.ref (B + 0), .int (nI ch), .int key] : List Value).toArray s 0 0 (kl_fr B)) (F0 m 10 ls []) := by
    intro n10
    induction n10 with
    | zero => intro k kv g hm; exact absurd hm (Nat.not_lt_zero _)
    | succ n10 ih10 =>
      intro k kv g hm hk hw hkp w1 H locs k0 k2 k6 k7 k8 k9 k10 k11 hru frm hP ls hl
      rcases k with _ | k
      · refine lv_iload hx hb dX4_passOnKey_10 (lv_at hl 4 rfl) ?_
        refine lv_if_lt (tgt := 117) hx hb dX4_passOnKey_12 (by decide) (fun c12 => ?_) (fun c12 => absurd (by decide) c12)
        refine lv_iload_n hx hb dX4_passOnKey_117 rfl (lv_at hl 3 rfl) ?_
        exact kl_iret hx hb hr hlocks hP ⟨⟨g, k11, hw.same (fun l p hp => by omega)⟩, hkp.same (fun l p hp => by omega), frm⟩ dX4_passOnKey_118
      · rw [mt_pred k] at hl
        refine lv_iload hx hb dX4_passOnKey_10 (lv_at hl 4 rfl) ?_
        refine kl_z_lt (tgt := 117) hx hb (by omega) dX4_passOnKey_12 (by decide) ?_
        refine lv_iconst (v := nI 0) hx hb dX4_passOnKey_15 (by decide) ?_
        refine lv_istore (lv' := [(5, .int (nI 0)), (0, .ref (B + 0)), (1, .int (nI ch)), (2, .int key), (3, .int kv), (4, .int (nI k))]) hx hb dX4_passOnKey_16 hl (by decide) rfl (fun ls hl => ?_)
        have lp18 : ∀ (n18 : Nat) (x : Nat) (kv : Int32) (g : Nat → Int32), 24 - x < n18 → (x ≤ 24) → (mt_wr 24 (fun l p => (k < l ∧ l < nL) ∨ (l = k ∧ p < x)) (fun l p => lwy l ≠ 0 ∧ mt_ref T C (lch l) (lco l) (lpa l) p ch) lco (fun l => if lwy l = nI 1 then key else nI 0) dC g) → (mt_kp 24 (fun l p => (k < l ∧ l < nL) ∨ (l = k ∧ p < x)) (fun l p => lwy l = 0 ∧ mt_ref T C (lch l) (lco l) (lpa l) p ch) kv) → ∀ (w1 : kl_M) (H : Heap) (locs : List Loc), w1 0 = some (.inr (4, [.ref (B + 1), .int (nI nT), .ref (B + 2), .int (nI nL), .ref (B + 3), .int (nI nS), .ref (B + 4), .int (nI nC), .ref (B + 5), .int (nI nW), .ref (B + 6), .ref (B + 9), .ref (B + 12), .int (nI nM), .ref (B + 13), .int rs])) → w1 2 = some (kl_aR G 3 6 lf) → w1 6 = some (.inr (2, [.ref (B + 7), .ref (B + 8)])) → w1 7 = some (kl_aI G 24 T) → w1 8 = some (kl_aI G 96 C) → w1 9 = some (.inr (2, [.ref (B + 10), .ref (B + 11)])) → w1 10 = some (kl_aI G 24 dT) → w1 11 = some (kl_aI G 96 g) → (kl_RU G B w1 nL lf la lch lco lpa lwy nS sf sa stb sco nC cf ca cwa cpa ctb cln cwd ccol) → (∀ j : Nat, j ≠ 11 → w1 j = w j) → kl_S G B w1 s.heap H locs → ∀ ls : Array Slot, lv_has ls 6 [(0, .ref (B + 0)), (1, .int (nI ch)), (2, .int key), (3, .int kv), (4, .int (nI k)), (5, .int (nI x))] → W pg l e rm_X4_passOnKey s m ([.ref (B + 0), .int (nI ch), .int key] : List Value).toArray below meth cd H locs (0) (0) (MQ below (kl_Qi G B (fun r w1 => (∃ g2, w1 11 = some (kl_aI G 96 g2) ∧ mt_wr 24 (fun l _ => l < nL) (fun l p => lwy l ≠ 0 ∧ mt_ref T C (lch l) (lco l) (lpa l) p ch) lco (fun l => if lwy l = nI 1 then key else nI 0) dC g2) ∧ mt_kp 24 (fun l _ => l < nL) (fun l p => lwy l = 0 ∧ mt_ref T C (lch l) (lco l) (lpa l) p ch) r ∧ ∀ j, j ≠ 11 → w1 j = w j)) ([.ref (B + 0), .int (nI ch), .int key] : List Value).toArray s 0 0 (kl_fr B)) (F0 m 18 ls []) := by
          intro n18
          induction n18 with
          | zero => intro x kv g hm; exact absurd hm (Nat.not_lt_zero _)
          | succ n18 ih18 =>
            intro x kv g hm hx9 hw hkp w1 H locs k0 k2 k6 k7 k8 k9 k10 k11 hru frm hP ls hl
            refine lv_iload hx hb dX4_passOnKey_18 (lv_at hl 5 rfl) ?_
            refine lv_bipush (v := nI 24) hx hb dX4_passOnKey_20 (by decide) ?_
            refine kl_ge (tgt := 111) hx hb (by omega) (by omega) dX4_passOnKey_22 (by decide) (fun c22 => ?_) (fun c22 => ?_)
            · refine lv_iinc (v := nI k - nI 1) (lv' := [(4, .int (nI k - nI 1)), (0, .ref (B + 0)), (1, .int (nI ch)), (2, .int key), (3, .int kv), (5, .int (nI x))]) hx hb dX4_passOnKey_111 hl (k := 4) rfl (mt_dec _) (by decide) rfl (fun ls hl => ?_)
              refine lv_goto (tgt := 10) hx hb dX4_passOnKey_114 (by decide) ?_
              exact ih10 k kv g (by omega) (by first | omega | grind) (hw.same (fun l p hp => by omega)) (hkp.same (fun l p hp => by omega)) _ _ _ k0 k2 k6 k7 k8 k9 k10 k11 hru frm hP ls (lv_sub hl [1, 2, 3, 4, 0] rfl)
            · refine lv_aload_n hx hb dX4_passOnKey_25 rfl (lv_at hl 0 rfl) ?_
              refine kl_get (C := RX4) (T := TX4) (N := 16) (ci := 4) hx hb hts hinX4 hown hK hP k0 rfl 2 (by decide) (hts (.fieldLink RX4 19 "KinLedger" "links" "[LKinLedger$Link;") (by decide +kernel)) (fun _ h9 => h9) rfl dX4_passOnKey_26 ?_
              refine lv_iload hx hb dX4_passOnKey_29 (lv_at hl 4 rfl) ?_
              obtain ⟨el1a, el1b, ⟨el1c, el1d⟩, el1e⟩ := hru.1 k (by omega)
              refine kl_aald hx hb hK hP 3 (k0 := 3) k2 rfl (by omega) (by omega) el1a dX4_passOnKey_31 ?_
              refine lv_aload_n hx hb dX4_passOnKey_32 rfl (lv_at hl 0 rfl) ?_
              refine kl_get (C := RX4) (T := TX4) (N := 16) (ci := 4) hx hb hts hinX4 hown hK hP k0 rfl 10 (by decide) (hts (.fieldLink RX4 53 "KinLedger" "rows" "LKinLedger$Rows;") (by decide +kernel)) (fun _ h9 => h9) rfl dX4_passOnKey_33 ?_
              refine lv_iload hx hb dX4_passOnKey_36 (lv_at hl 5 rfl) ?_
              refine kl_cVi (C := RX1) (i := (la k)) (As := [.ref (B + 6), .int (nI x)]) (rest := []) ⟨hx, hb, hml, hown, hts⟩ (c_X1_target l G B _ 6 7 8 (la k) x el1e k6 k7 k8 (by omega) (by omega)) (cwV 2 hts gX4_passOnKey_X1_target rfl rfl rfl (by decide +kernel) ⟨Nat.le_of_ble_eq_true rfl, Nat.le_of_ble_eq_true rfl⟩) hK hP el1e rfl rfl hl.1 rfl (Nat.le_of_ble_eq_true rfl) dX4_passOnKey_38 ⟨Nat.le_of_ble_eq_true rfl, Nat.le_of_ble_eq_true rfl⟩ (fun r4 w2 H locs q3 hP => ?_)
              obtain ⟨rfl, hv5⟩ := q3
              rcases hv5 with ⟨rfl, hv5⟩ | ⟨p6, hp6, rfl, hv5⟩
              · refine lv_iload_n hx hb dX4_passOnKey_41 rfl (lv_at hl 1 rfl) ?_
                refine lv_icmp_eq (tgt := 48) hx hb dX4_passOnKey_42 (by decide) (fun c42 => absurd c42.symm (kl_nm1 (by omega))) (fun c42 => ?_)
                refine lv_goto (tgt := 105) hx hb dX4_passOnKey_45 (by decide) ?_
                refine lv_iinc (v := nI (x + 1)) (lv' := [(5, .int (nI (x + 1))), (0, .ref (B + 0)), (1, .int (nI ch)), (2, .int key), (3, .int kv), (4, .int (nI k))]) hx hb dX4_passOnKey_105 hl (k := 5) rfl (nI_1 _) (by decide) rfl (fun ls hl => ?_)
                refine lv_goto (tgt := 18) hx hb dX4_passOnKey_108 (by decide) ?_
                exact ih18 (x + 1) kv g (by omega) (by first | omega | grind) (hw.no (l0 := k) (x := x) (fun l p hp => by omega) (fun z => hv5 ch (by omega) z.2)) (hkp.no (l0 := k) (x := x) (fun l p hp => by omega) (fun z => hv5 ch (by omega) z.2)) _ _ _ k0 k2 k6 k7 k8 k9 k10 k11 hru frm hP ls (lv_sub hl [1, 2, 3, 4, 5, 0] rfl)
              · refine lv_iload_n hx hb dX4_passOnKey_41 rfl (lv_at hl 1 rfl) ?_
                refine kl_eq (tgt := 48) hx hb (by omega) (by omega) dX4_passOnKey_42 (by decide) (fun c42 => ?_) (fun c42 => ?_)
                · refine lv_aload_n hx hb dX4_passOnKey_48 rfl (lv_at hl 0 rfl) ?_
                  refine kl_get (C := RX4) (T := TX4) (N := 16) (ci := 4) hx hb hts hinX4 hown hK hP k0 rfl 2 (by decide) (hts (.fieldLink RX4 19 "KinLedger" "links" "[LKinLedger$Link;") (by decide +kernel)) (fun _ h9 => h9) rfl dX4_passOnKey_49 ?_
                  refine lv_iload hx hb dX4_passOnKey_52 (lv_at hl 4 rfl) ?_
                  obtain ⟨el7a, el7b, ⟨el7c, el7d⟩, el7e⟩ := hru.1 k (by omega)
                  refine kl_aald hx hb hK hP 3 (k0 := 3) k2 rfl (by omega) (by omega) el7a dX4_passOnKey_54 ?_
                  refine kl_get (C := RX1) (T := TX1) (N := 4) (ci := 1) hx hb hts hinX1 hown hK hP el7e rfl 3 (by decide) (hts (.fieldLink RX4 202 "KinLedger$Link" "way" "I") (by decide +kernel)) (fun _ h9 => h9) rfl dX4_passOnKey_55 ?_
                  refine lv_if_ne (tgt := 67) hx hb dX4_passOnKey_58 (by decide) (fun c58 => ?_) (fun c58 => ?_)
                  · refine lv_aload_n hx hb dX4_passOnKey_67 rfl (lv_at hl 0 rfl) ?_
                    refine kl_get (C := RX4) (T := TX4) (N := 16) (ci := 4) hx hb hts hinX4 hown hK hP k0 rfl 11 (by decide) (hts (.fieldLink RX4 57 "KinLedger" "draft" "LKinLedger$Rows;") (by decide +kernel)) (fun _ h9 => h9) rfl dX4_passOnKey_68 ?_
                    refine lv_iload hx hb dX4_passOnKey_71 (lv_at hl 5 rfl) ?_
                    refine lv_aload_n hx hb dX4_passOnKey_73 rfl (lv_at hl 0 rfl) ?_
                    refine kl_get (C := RX4) (T := TX4) (N := 16) (ci := 4) hx hb hts hinX4 hown hK hP k0 rfl 2 (by decide) (hts (.fieldLink RX4 19 "KinLedger" "links" "[LKinLedger$Link;") (by decide +kernel)) (fun _ h9 => h9) rfl dX4_passOnKey_74 ?_
                    refine lv_iload hx hb dX4_passOnKey_77 (lv_at hl 4 rfl) ?_
                    obtain ⟨el8a, el8b, ⟨el8c, el8d⟩, el8e⟩ := hru.1 k (by omega)
                    refine kl_aald hx hb hK hP 3 (k0 := 3) k2 rfl (by omega) (by omega) el8a dX4_passOnKey_79 ?_
                    refine kl_get (C := RX1) (T := TX1) (N := 4) (ci := 1) hx hb hts hinX1 hown hK hP el8e rfl 1 (by decide) (hts (.fieldLink RX4 212 "KinLedger$Link" "column" "I") (by decide +kernel)) (fun _ h9 => h9) rfl dX4_passOnKey_80 ?_
                    refine lv_aload_n hx hb dX4_passOnKey_83 rfl (lv_at hl 0 rfl) ?_
                    refine kl_get (C := RX4) (T := TX4) (N := 16) (ci := 4) hx hb hts hinX4 hown hK hP k0 rfl 2 (by decide) (hts (.fieldLink RX4 19 "KinLedger" "links" "[LKinLedger$Link;") (by decide +kernel)) (fun _ h9 => h9) rfl dX4_passOnKey_84 ?_
                    refine lv_iload hx hb dX4_passOnKey_87 (lv_at hl 4 rfl) ?_
                    obtain ⟨el9a, el9b, ⟨el9c, el9d⟩, el9e⟩ := hru.1 k (by omega)
                    refine kl_aald hx hb hK hP 3 (k0 := 3) k2 rfl (by omega) (by omega) el9a dX4_passOnKey_89 ?_
                    refine kl_get (C := RX1) (T := TX1) (N := 4) (ci := 1) hx hb hts hinX1 hown hK hP el9e rfl 3 (by decide) (hts (.fieldLink RX4 202 "KinLedger$Link" "way" "I") (by decide +kernel)) (fun _ h9 => h9) rfl dX4_passOnKey_90 ?_
                    refine lv_iconst (v := nI 1) hx hb dX4_passOnKey_93 (by decide) ?_
                    refine lv_icmp_ne (tgt := 101) hx hb dX4_passOnKey_94 (by decide) (fun c94 => ?_) (fun c94 => ?_)
                    · refine lv_iconst (v := nI 0) hx hb dX4_passOnKey_101 (by decide) ?_
                      refine kl_cVv (C := RX2) (i := 9) (As := [.int (nI x), .int (nI (lco k)), .int (nI 0)]) (rest := []) ⟨hx, hb, hml, hown, hts⟩ (c_X2_put l G B _ 9 10 11 x (lco k) (nI 0) k9 k10 k11 (by omega) (by omega) (by omega) (by omega)) (cwV 3 hts gX4_passOnKey_X2_put rfl rfl rfl (by decide +kernel) ⟨Nat.le_of_ble_eq_true rfl, Nat.le_of_ble_eq_true rfl⟩) hK hP k9 rfl rfl hl.1 rfl (Nat.le_of_ble_eq_true rfl) dX4_passOnKey_102 ⟨Nat.le_of_ble_eq_true rfl, Nat.le_of_ble_eq_true rfl⟩ (fun w10 H locs q11 hP => ?_)
                      obtain ⟨f13, fr14⟩ := q11
                      have f13 : w10 11 = some (kl_aI G 96 (upd g (4 * x + lco k) (nI 0))) := f13
                      have k0 : w10 0 = some (.inr (4, [.ref (B + 1), .int (nI nT), .ref (B + 2), .int (nI nL), .ref (B + 3), .int (nI nS), .ref (B + 4), .int (nI nC), .ref (B + 5), .int (nI nW), .ref (B + 6), .ref (B + 9), .ref (B + 12), .int (nI nM), .ref (B + 13), .int rs])) := (fr14 _ (by decide)).trans k0
                      have k2 : w10 2 = some (kl_aR G 3 6 lf) := (fr14 _ (by decide)).trans k2
                      have k6 : w10 6 = some (.inr (2, [.ref (B + 7), .ref (B + 8)])) := (fr14 _ (by decide)).trans k6
                      have k7 : w10 7 = some (kl_aI G 24 T) := (fr14 _ (by decide)).trans k7
                      have k8 : w10 8 = some (kl_aI G 96 C) := (fr14 _ (by decide)).trans k8
                      have k9 : w10 9 = some (.inr (2, [.ref (B + 10), .ref (B + 11)])) := (fr14 _ (by decide)).trans k9
                      have k10 : w10 10 = some (kl_aI G 24 dT) := (fr14 _ (by decide)).trans k10
                      have el9e : w10 (la k) = some (.inr (1, [.int (lch k), .int (nI (lco k)), .int (lpa k), .int (lwy k)])) := (fr14 _ (by omega)).trans el9e
                      have hru := kl_RU.mv hru (fun j hj => fr14 j (by omega))
                      have frm : ∀ j : Nat, j ≠ 11 → w10 j = w j := fun j k0 => (fr14 j k0).trans (frm j k0)
                      refine lv_iinc (v := nI (x + 1)) (lv' := [(5, .int (nI (x + 1))), (0, .ref (B + 0)), (1, .int (nI ch)), (2, .int key), (3, .int kv), (4, .int (nI k))]) hx hb dX4_passOnKey_105 hl (k := 5) rfl (nI_1 _) (by decide) rfl (fun ls hl => ?_)
                      refine lv_goto (tgt := 18) hx hb dX4_passOnKey_108 (by decide) ?_
                      exact ih18 (x + 1) kv (upd g (4 * x + lco k) (nI 0)) (by omega) (by first | omega | grind) (hw.put (l0 := k) (x := x) (if_neg c94) (by omega) (fun l p hp => by omega) (fun l z => by omega) ⟨c58, by rw [← c42]; exact hv5⟩ (by omega)) (hkp.no (l0 := k) (x := x) (fun l p hp => by omega) (fun z => c58 z.1)) _ _ _ k0 k2 k6 k7 k8 k9 k10 f13 hru frm hP ls (lv_sub hl [1, 2, 3, 4, 5, 0] rfl)
                    · refine lv_iload_n hx hb dX4_passOnKey_97 rfl (lv_at hl 2 rfl) ?_
                      refine lv_goto (tgt := 102) hx hb dX4_passOnKey_98 (by decide) ?_
                      refine kl_cVv (C := RX2) (i := 9) (As := [.int (nI x), .int (nI (lco k)), .int key]) (rest := []) ⟨hx, hb, hml, hown, hts⟩ (c_X2_put l G B _ 9 10 11 x (lco k) key k9 k10 k11 (by omega) (by omega) (by omega) (by omega)) (cwV 3 hts gX4_passOnKey_X2_put rfl rfl rfl (by decide +kernel) ⟨Nat.le_of_ble_eq_true rfl, Nat.le_of_ble_eq_true rfl⟩) hK hP k9 rfl rfl hl.1 rfl (Nat.le_of_ble_eq_true rfl) dX4_passOnKey_102 ⟨Nat.le_of_ble_eq_true rfl, Nat.le_of_ble_eq_true rfl⟩ (fun w15 H locs q16 hP => ?_)
                      obtain ⟨f18, fr19⟩ := q16
                      have f18 : w15 11 = some (kl_aI G 96 (upd g (4 * x + lco k) key)) := f18
                      have k0 : w15 0 = some (.inr (4, [.ref (B + 1), .int (nI nT), .ref (B + 2), .int (nI nL), .ref (B + 3), .int (nI nS), .ref (B + 4), .int (nI nC), .ref (B + 5), .int (nI nW), .ref (B + 6), .ref (B + 9), .ref (B + 12), .int (nI nM), .ref (B + 13), .int rs])) := (fr19 _ (by decide)).trans k0
                      have k2 : w15 2 = some (kl_aR G 3 6 lf) := (fr19 _ (by decide)).trans k2
                      have k6 : w15 6 = some (.inr (2, [.ref (B + 7), .ref (B + 8)])) := (fr19 _ (by decide)).trans k6
                      have k7 : w15 7 = some (kl_aI G 24 T) := (fr19 _ (by decide)).trans k7
                      have k8 : w15 8 = some (kl_aI G 96 C) := (fr19 _ (by decide)).trans k8
                      have k9 : w15 9 = some (.inr (2, [.ref (B + 10), .ref (B + 11)])) := (fr19 _ (by decide)).trans k9
                      have k10 : w15 10 = some (kl_aI G 24 dT) := (fr19 _ (by decide)).trans k10
                      have el9e : w15 (la k) = some (.inr (1, [.int (lch k), .int (nI (lco k)), .int (lpa k), .int (lwy k)])) := (fr19 _ (by omega)).trans el9e
                      have hru := kl_RU.mv hru (fun j hj => fr19 j (by omega))
                      have frm : ∀ j : Nat, j ≠ 11 → w15 j = w j := fun j k0 => (fr19 j k0).trans (frm j k0)
                      refine lv_iinc (v := nI (x + 1)) (lv' := [(5, .int (nI (x + 1))), (0, .ref (B + 0)), (1, .int (nI ch)), (2, .int key), (3, .int kv), (4, .int (nI k))]) hx hb dX4_passOnKey_105 hl (k := 5) rfl (nI_1 _) (by decide) rfl (fun ls hl => ?_)
                      refine lv_goto (tgt := 18) hx hb dX4_passOnKey_108 (by decide) ?_
                      exact ih18 (x + 1) kv (upd g (4 * x + lco k) key) (by omega) (by first | omega | grind) (hw.put (l0 := k) (x := x) (if_pos c94) (by omega) (fun l p hp => by omega) (fun l z => by omega) ⟨c58, by rw [← c42]; exact hv5⟩ (by omega)) (hkp.no (l0 := k) (x := x) (fun l p hp => by omega) (fun z => c58 z.1)) _ _ _ k0 k2 k6 k7 k8 k9 k10 f18 hru frm hP ls (lv_sub hl [1, 2, 3, 4, 5, 0] rfl)
                  · refine lv_iload hx hb dX4_passOnKey_61 (lv_at hl 4 rfl) ?_
                    refine lv_istore_n (lv' := [(3, .int (nI k)), (0, .ref (B + 0)), (1, .int (nI ch)), (2, .int key), (4, .int (nI k)), (5, .int (nI x))]) hx hb dX4_passOnKey_63 rfl hl (by decide) rfl (fun ls hl => ?_)
                    refine lv_goto (tgt := 105) hx hb dX4_passOnKey_64 (by decide) ?_
                    refine lv_iinc (v := nI (x + 1)) (lv' := [(5, .int (nI (x + 1))), (3, .int (nI k)), (0, .ref (B + 0)), (1, .int (nI ch)), (2, .int key), (4, .int (nI k))]) hx hb dX4_passOnKey_105 hl (k := 5) rfl (nI_1 _) (by decide) rfl (fun ls hl => ?_)
                    refine lv_goto (tgt := 18) hx hb dX4_passOnKey_108 (by decide) ?_
                    exact ih18 (x + 1) (nI k) g (by omega) (by first | omega | grind) (hw.no (l0 := k) (x := x) (fun l p hp => by omega) (fun z => z.1 c58)) (mt_kp.yes (D := (fun l p => (k < l ∧ l < nL) ∨ (l = k ∧ p < x))) (l0 := k) (x := x) (by omega) (fun l p hp => by omega) (fun l p hp z => by omega) ⟨c58, by rw [← c42]; exact hv5⟩) _ _ _ k0 k2 k6 k7 k8 k9 k10 k11 hru frm hP ls (lv_sub hl [2, 3, 4, 1, 5, 0] rfl)
                · refine lv_goto (tgt := 105) hx hb dX4_passOnKey_45 (by decide) ?_
                  refine lv_iinc (v := nI (x + 1)) (lv' := [(5, .int (nI (x + 1))), (0, .ref (B + 0)), (1, .int (nI ch)), (2, .int key), (3, .int kv), (4, .int (nI k))]) hx hb dX4_passOnKey_105 hl (k := 5) rfl (nI_1 _) (by decide) rfl (fun ls hl => ?_)
                  refine lv_goto (tgt := 18) hx hb dX4_passOnKey_108 (by decide) ?_
                  exact ih18 (x + 1) kv g (by omega) (by first | omega | grind) (hw.no (l0 := k) (x := x) (fun l p hp => by omega) (fun z => c42 (mt_ref_one hu (hpar k (by omega)) hp6 (by omega) hv5 z.2))) (hkp.no (l0 := k) (x := x) (fun l p hp => by omega) (fun z => c42 (mt_ref_one hu (hpar k (by omega)) hp6 (by omega) hv5 z.2))) _ _ _ k0 k2 k6 k7 k8 k9 k10 k11 hru frm hP ls (lv_sub hl [1, 2, 3, 4, 5, 0] rfl)
        exact lp18 (24 + 1) 0 kv g (Nat.lt_succ_of_le (by omega)) (by first | omega | grind) (hw.same (fun l p hp => by omega)) (hkp.same (fun l p hp => by omega)) _ _ _ k0 k2 k6 k7 k8 k9 k10 k11 hru frm hP ls (lv_sub hl [1, 2, 3, 4, 5, 0] rfl)
  exact lp10 (nL + 1) nL ((-1)) dC (Nat.lt_succ_of_le (by omega)) (by first | omega | grind) (mt_wr.rf (fun l p hp z => by omega)) (mt_kp.rf (fun l p hp z => by omega)) _ _ _ k0 k2 k6 k7 k8 k9 k10 k11 hru frm hP ls (lv_sub hl [2, 3, 4, 1, 0] rfl)

abbrev rm_X4_settle : Room := { frames := 7, cells := 1, slots := 6, locals := 113 }
set_option maxHeartbeats 4000000 in
set_option maxRecDepth 100000 in
theorem c_X4_settle (l : Launch) (hst : l.stackTraces = false) (G : kl_G) (B : Nat) (w : kl_M) {nT nW nM : Nat} {rs : Int32} {nL nS nC : Nat} {lf sf cf : Nat → Option Nat} {la : Nat → Nat} {lch : Nat → Int32} {lco : Nat → Nat} {lpa lwy : Nat → Int32} {sa : Nat → Nat} {stb : Nat → Int32} {sco ca cwa cpa : Nat → Nat} {ctb : Nat → Int32} {cln : Nat → Nat} {cwd : Nat → Nat → Nat} {ccol : Nat → Nat} {T C dT dC : Nat → Int32} (kp : Int32) (k0 : w 0 = some (.inr (4, [.ref (B + 1), .int (nI nT), .ref (B + 2), .int (nI nL), .ref (B + 3), .int (nI nS), .ref (B + 4), .int (nI nC), .ref (B + 5), .int (nI nW), .ref (B + 6), .ref (B + 9), .ref (B + 12), .int (nI nM), .ref (B + 13), .int rs]))) (k2 : w 2 = some (kl_aR G 3 6 lf)) (k3 : w 3 = some (kl_aR G 4 4 sf)) (k4 : w 4 = some (kl_aR G 5 4 cf)) (k6 : w 6 = some (.inr (2, [.ref (B + 7), .ref (B + 8)]))) (k7 : w 7 = some (kl_aI G 24 T)) (k8 : w 8 = some (kl_aI G 96 C)) (k9 : w 9 = some (.inr (2, [.ref (B + 10), .ref (B + 11)]))) (k10 : w 10 = some (kl_aI G 24 dT)) (k11 : w 11 = some (kl_aI G 96 dC)) (hnn : nT ≤ 4 ∧ nL ≤ 6 ∧ nS ≤ 4 ∧ nC ≤ 4 ∧ nW ≤ 10 ∧ nM ≤ 4) (hru : kl_RU G B w nL lf la lch lco lpa lwy nS sf sa stb sco nC cf ca cwa cpa ctb cln cwd ccol) (hkk : kp = -1 ∨ ∃ i, i < 6 ∧ kp = nI i) : vx_Met l yX4_settle wsX4_settle rm_X4_settle (kl_Px G B w [.ref (B + 0), .int kp]) (kl_Qv G B (fun w1 => mt_st kp (mt_why dT dC nT nS stb sco nL lch lco lpa nC ctb cwd cln) (nI 0) ∧ kl_RU G B w1 nL lf la lch lco lpa lwy nS sf sa stb sco nC cf ca cwa cpa ctb cln cwd ccol ∧ w1 7 = some (kl_aI G 24 dT) ∧ w1 8 = some (kl_aI G 96 dC) ∧ ∀ j, j < 48 → j ≠ 7 → j ≠ 8 → w1 j = w j)) (kl_X G B (fun E w1 => E = "java/lang/IllegalStateException" ∧ ∃ r, r ≠ 0 ∧ mt_st kp (mt_why dT dC nT nS stb sco nL lch lco lpa nC ctb cwd cln) r ∧ w1 0 = some (.inr (4, [.ref (B + 1), .int (nI nT), .ref (B + 2), .int (nI nL), .ref (B + 3), .int (nI nS), .ref (B + 4), .int (nI nC), .ref (B + 5), .int (nI nW), .ref (B + 6), .ref (B + 9), .ref (B + 12), .int (nI nM), .ref (B + 13), .int r])) ∧ kl_RU G B w1 nL lf la lch lco lpa lwy nS sf sa stb sco nC cf ca cwa cpa ctb cln cwd ccol ∧ ∀ j, j < 48 → j ≠ 0 → w1 j = w j)) 1 6 (kl_fr B) := by
  refine vx_ofW (cc := cX4_settle) (maxL := 3) (ret := none) (by decide) rfl ?_
  intro pg e s m args below meth cd s₁ Bd hml hout hv
  obtain ⟨rfl, hP0, hK, hZ⟩ := hv
  have hx := Bd.exec
  have hb := Bd.bytes
  have hr := Bd.returns
  have hts := atoms_spec (ws := wsX4_settle) Bd.pre
  have hown : s.vm.findClass RX4 = some m.cls := findClass_of_methodNamed Bd.named
  have hlocks := Bd.notSynchronized
  have hinX4 : ∀ w ∈ u_ws RX4 TX4 16, w ∈ wsX4_settle := by decide +kernel
  have hP := kl_S.rf hP0
  have hl := lv_entry ([.ref (B + 0), .int kp]) (n := 3) (Nat.le_of_ble_eq_true rfl)
  rw [lg_entry_eq]
  generalize (lg_sl ([.ref (B + 0), .int kp]) ++ List.replicate (3 - (lg_sl ([.ref (B + 0), .int kp])).length) Slot.unset).toArray = ls at hl ⊢
  have hl : lv_has ls 3 [(0, .ref (B + 0)), (1, .int kp)] := hl
  have frm : ∀ j : Nat, j < 48 → w j = w j := fun j _  => rfl
  obtain ⟨m1, m2, m3, m4, m5, m6⟩ := hnn
  rcases hkk with rfl | ⟨kk, hkk, rfl⟩
  · refine lv_iload_n hx hb dX4_settle_0 rfl (lv_at hl 1 rfl) ?_
    refine lv_iconst (v := (-1)) hx hb dX4_settle_1 (by decide) ?_
    refine lv_icmp_ne (tgt := 16) hx hb dX4_settle_2 (by decide) (fun c2 => absurd rfl c2) (fun c2 => ?_)
    refine lv_aload_n hx hb dX4_settle_5 rfl (lv_at hl 0 rfl) ?_
    refine lv_aload_n hx hb dX4_settle_6 rfl (lv_at hl 0 rfl) ?_
    refine kl_get (C := RX4) (T := TX4) (N := 16) (ci := 4) hx hb hts hinX4 hown hK hP k0 rfl 11 (by decide) (hts (.fieldLink RX4 57 "KinLedger" "draft" "LKinLedger$Rows;") (by decide +kernel)) (fun _ h9 => h9) rfl dX4_settle_7 ?_
    refine kl_cVi (C := RX4) (i := 0) (As := [.ref (B + 9)]) (rest := []) ⟨hx, hb, hml, hown, hts⟩ (c_X4_whyBroken l G B _ 9 10 11 k0 k2 k3 k4 k9 k10 k11 ⟨by omega, by omega, by omega, by omega, by omega, by omega⟩ hru ⟨by omega, by omega, by omega⟩) (cwV 1 hts gX4_settle_X4_whyBroken rfl rfl rfl (by decide +kernel) ⟨Nat.le_of_ble_eq_true rfl, Nat.le_of_ble_eq_true rfl⟩) hK hP k0 rfl rfl hl.1 rfl (Nat.le_of_ble_eq_true rfl) dX4_settle_10 ⟨Nat.le_of_ble_eq_true rfl, Nat.le_of_ble_eq_true rfl⟩ (fun r3 w1 H locs q2 hP => ?_)
    obtain ⟨hwhy, hru, fr4⟩ := q2
    have k0 : w1 0 = some (.inr (4, [.ref (B + 1), .int (nI nT), .ref (B + 2), .int (nI nL), .ref (B + 3), .int (nI nS), .ref (B + 4), .int (nI nC), .ref (B + 5), .int (nI nW), .ref (B + 6), .ref (B + 9), .ref (B + 12), .int (nI nM), .ref (B + 13), .int rs])) := (fr4 _ (by decide)).trans k0
    have k2 : w1 2 = some (kl_aR G 3 6 lf) := (fr4 _ (by decide)).trans k2
    have k3 : w1 3 = some (kl_aR G 4 4 sf) := (fr4 _ (by decide)).trans k3
    have k4 : w1 4 = some (kl_aR G 5 4 cf) := (fr4 _ (by decide)).trans k4
    have k6 : w1 6 = some (.inr (2, [.ref (B + 7), .ref (B + 8)])) := (fr4 _ (by decide)).trans k6
    have k7 : w1 7 = some (kl_aI G 24 T) := (fr4 _ (by decide)).trans k7
    have k8 : w1 8 = some (kl_aI G 96 C) := (fr4 _ (by decide)).trans k8
    have k9 : w1 9 = some (.inr (2, [.ref (B + 10), .ref (B + 11)])) := (fr4 _ (by decide)).trans k9
    have k10 : w1 10 = some (kl_aI G 24 dT) := (fr4 _ (by decide)).trans k10
    have k11 : w1 11 = some (kl_aI G 96 dC) := (fr4 _ (by decide)).trans k11
    have frm : ∀ j : Nat, j < 48 → w1 j = w j := fun j hj  => (fr4 j hj).trans (frm j hj )
    refine lv_goto (tgt := 20) hx hb dX4_settle_13 (by decide) ?_
    refine lv_istore_n (lv' := [(2, .int r3), (0, .ref (B + 0)), (1, .int ((-1)))]) hx hb dX4_settle_20 rfl hl (by decide) rfl (fun ls hl => ?_)
    refine lv_aload_n hx hb dX4_settle_21 rfl (lv_at hl 1 rfl) ?_
    refine lv_iload_n hx hb dX4_settle_22 rfl (lv_at hl 0 rfl) ?_
    refine lv_if_eq (tgt := 30) hx hb dX4_settle_23 (by decide) (fun c23 => ?_) (fun c23 => ?_)
    · refine lv_iconst (v := nI 0) hx hb dX4_settle_30 (by decide) ?_
      refine lv_iload_n hx hb dX4_settle_31 rfl (lv_at hl 0 rfl) ?_
      refine klx_cVv (C := RX4) (i := 0) (As := [.int (nI 0), .int r3]) (rest := []) ⟨hx, hb, hml, hown, hts⟩ (c_X4_refuseIf l hst G B _ (nI 0) r3 k0 (kl_b.f (P := False) not_false)) (cwV 2 hts gX4_settle_X4_refuseIf rfl rfl rfl (by decide +kernel) ⟨Nat.le_of_ble_eq_true rfl, Nat.le_of_ble_eq_true rfl⟩) hK hZ hP k0 rfl rfl hl.1 rfl (Nat.le_of_ble_eq_true rfl) dX4_settle_32 ⟨Nat.le_of_ble_eq_true rfl, Nat.le_of_ble_eq_true rfl⟩ (fun _ _ _ _ _ _ hpx _ _ _ _ => hpx.2.1.elim) (fun w5 H locs q6 hP => ?_)
      obtain ⟨rfl, ok8⟩ := q6
      refine lv_aload_n hx hb dX4_settle_35 rfl (lv_at hl 1 rfl) ?_
      refine kl_get (C := RX4) (T := TX4) (N := 16) (ci := 4) hx hb hts hinX4 hown hK hP k0 rfl 10 (by decide) (hts (.fieldLink RX4 53 "KinLedger" "rows" "LKinLedger$Rows;") (by decide +kernel)) (fun _ h9 => h9) rfl dX4_settle_36 ?_
      refine lv_aload_n hx hb dX4_settle_39 rfl (lv_at hl 1 rfl) ?_
      refine kl_get (C := RX4) (T := TX4) (N := 16) (ci := 4) hx hb hts hinX4 hown hK hP k0 rfl 11 (by decide) (hts (.fieldLink RX4 57 "KinLedger" "draft" "LKinLedger$Rows;") (by decide +kernel)) (fun _ h9 => h9) rfl dX4_settle_40 ?_
      refine kl_cVv (C := RX2) (i := 6) (As := [.ref (B + 9)]) (rest := []) ⟨hx, hb, hml, hown, hts⟩ (c_X2_become l G B _ 6 7 8 9 10 11 k6 k7 k8 k9 k10 k11 (by omega)) (cwV 1 hts gX4_settle_X2_become rfl rfl rfl (by decide +kernel) ⟨Nat.le_of_ble_eq_true rfl, Nat.le_of_ble_eq_true rfl⟩) hK hP k6 rfl rfl hl.1 rfl (Nat.le_of_ble_eq_true rfl) dX4_settle_43 ⟨Nat.le_of_ble_eq_true rfl, Nat.le_of_ble_eq_true rfl⟩ (fun w9 H locs q10 hP => ?_)
      obtain ⟨f12, f13, fr14⟩ := q10
      have k0 : w9 0 = some (.inr (4, [.ref (B + 1), .int (nI nT), .ref (B + 2), .int (nI nL), .ref (B + 3), .int (nI nS), .ref (B + 4), .int (nI nC), .ref (B + 5), .int (nI nW), .ref (B + 6), .ref (B + 9), .ref (B + 12), .int (nI nM), .ref (B + 13), .int rs])) := (fr14 _ (by decide) (by decide)).trans k0
      have k2 : w9 2 = some (kl_aR G 3 6 lf) := (fr14 _ (by decide) (by decide)).trans k2
      have k3 : w9 3 = some (kl_aR G 4 4 sf) := (fr14 _ (by decide) (by decide)).trans k3
      have k4 : w9 4 = some (kl_aR G 5 4 cf) := (fr14 _ (by decide) (by decide)).trans k4
      have k6 : w9 6 = some (.inr (2, [.ref (B + 7), .ref (B + 8)])) := (fr14 _ (by decide) (by decide)).trans k6
      have k9 : w9 9 = some (.inr (2, [.ref (B + 10), .ref (B + 11)])) := (fr14 _ (by decide) (by decide)).trans k9
      have k10 : w9 10 = some (kl_aI G 24 dT) := (fr14 _ (by decide) (by decide)).trans k10
      have k11 : w9 11 = some (kl_aI G 96 dC) := (fr14 _ (by decide) (by decide)).trans k11
      have hru := kl_RU.mv hru (fun j hj => fr14 j (by omega) (by omega))
      refine W.widen (k := 1) (n := 6) (by omega) (by omega) ?_
      refine vx_ret ?_
      exact kl_vret hx hb hr hlocks hP ⟨Or.inl ⟨rfl, (c23.trans nI_0.symm) ▸ hwhy⟩, hru, f12, f13, fun j hj h7 h8 => (fr14 j h7 h8).trans (frm j hj)⟩ dX4_settle_46
    · refine lv_iconst (v := nI 1) hx hb dX4_settle_26 (by decide) ?_
      refine lv_goto (tgt := 31) hx hb dX4_settle_27 (by decide) ?_
      refine lv_iload_n hx hb dX4_settle_31 rfl (lv_at hl 0 rfl) ?_
      refine klx_cVv (C := RX4) (i := 0) (As := [.int (nI 1), .int r3]) (rest := []) ⟨hx, hb, hml, hown, hts⟩ (c_X4_refuseIf l hst G B _ (nI 1) r3 k0 (kl_b.t (P := True) trivial)) (cwV 2 hts gX4_settle_X4_refuseIf rfl rfl rfl (by decide +kernel) ⟨Nat.le_of_ble_eq_true rfl, Nat.le_of_ble_eq_true rfl⟩) hK hZ hP k0 rfl rfl hl.1 rfl (Nat.le_of_ble_eq_true rfl) dX4_settle_32 ⟨Nat.le_of_ble_eq_true rfl, Nat.le_of_ble_eq_true rfl⟩ (fun E ce q9 w9 H locs hpx hP h9 hv9 hc9 => kl_out hout hlocks hP (⟨hpx.1, _, ⟨c23, Or.inl ⟨rfl, hwhy⟩, hpx.2.2.1, kl_RU.mv hru (fun j hj => hpx.2.2.2 j (by omega)), fun j hj h0 => (hpx.2.2.2 j h0).trans (frm j hj)⟩⟩) h9 hv9 hc9 (Nat.le_of_ble_eq_true rfl) (Nat.le_of_ble_eq_true rfl)) (fun w15 H locs q16 hP => ?_)
      exact (q16.2 trivial).elim
  · refine lv_iload_n hx hb dX4_settle_0 rfl (lv_at hl 1 rfl) ?_
    refine lv_iconst (v := (-1)) hx hb dX4_settle_1 (by decide) ?_
    refine lv_icmp_ne (tgt := 16) hx hb dX4_settle_2 (by decide) (fun c2 => ?_) (fun c2 => absurd c2 (kl_nm1 (by omega)))
    refine lv_bipush (v := nI 100) hx hb dX4_settle_16 (by decide) ?_
    refine lv_iload_n hx hb dX4_settle_18 rfl (lv_at hl 1 rfl) ?_
    refine lv_iadd hx hb dX4_settle_19 ?_
    refine kl_top (z := nI (100 + kk)) (by first | exact nI_add _ _ | (rw [nI_add]; first | rfl | (congr 1; omega))) ?_
    refine lv_istore_n (lv' := [(2, .int (nI (100 + kk))), (0, .ref (B + 0)), (1, .int (nI kk))]) hx hb dX4_settle_20 rfl hl (by decide) rfl (fun ls hl => ?_)
    refine lv_aload_n hx hb dX4_settle_21 rfl (lv_at hl 1 rfl) ?_
    refine lv_iload_n hx hb dX4_settle_22 rfl (lv_at hl 0 rfl) ?_
    refine kl_z_eq (tgt := 30) hx hb (by omega) dX4_settle_23 (by decide) (fun c23 => ?_) (fun c23 => ?_)
    · exact absurd c23 (by omega)
    · refine lv_iconst (v := nI 1) hx hb dX4_settle_26 (by decide) ?_
      refine lv_goto (tgt := 31) hx hb dX4_settle_27 (by decide) ?_
      refine lv_iload_n hx hb dX4_settle_31 rfl (lv_at hl 0 rfl) ?_
      refine klx_cVv (C := RX4) (i := 0) (As := [.int (nI 1), .int (nI (100 + kk))]) (rest := []) ⟨hx, hb, hml, hown, hts⟩ (c_X4_refuseIf l hst G B _ (nI 1) (nI (100 + kk)) k0 (kl_b.t (P := True) trivial)) (cwV 2 hts gX4_settle_X4_refuseIf rfl rfl rfl (by decide +kernel) ⟨Nat.le_of_ble_eq_true rfl, Nat.le_of_ble_eq_true rfl⟩) hK hZ hP k0 rfl rfl hl.1 rfl (Nat.le_of_ble_eq_true rfl) dX4_settle_32 ⟨Nat.le_of_ble_eq_true rfl, Nat.le_of_ble_eq_true rfl⟩ (fun E ce q9 w9 H locs hpx hP h9 hv9 hc9 => kl_out hout hlocks hP (⟨hpx.1, _, ⟨fun z => absurd ((kl_n0 (by omega)).mp z) (by omega), Or.inr ⟨kk, hkk, rfl, rfl⟩, hpx.2.2.1, kl_RU.mv hru (fun j hj => hpx.2.2.2 j (by omega)), fun j hj h0 => (hpx.2.2.2 j h0).trans (frm j hj)⟩⟩) h9 hv9 hc9 (Nat.le_of_ble_eq_true rfl) (Nat.le_of_ble_eq_true rfl)) (fun w18 H locs q19 hP => ?_)
      exact (q19.2 trivial).elim
