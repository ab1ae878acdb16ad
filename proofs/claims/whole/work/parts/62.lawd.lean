/-! The law's loop, and its start. -/
section LAWD
variable {G : kl_G} {B : Nat} {w w1 w2 : kl_M} {ec ec2 rs2 : Int32} {ol ol2 : Nat → Int64} {nT nL nS nC nW nM n : Nat} {rs : Int32} {cn wt : Nat → Nat} {T C : Nat → Int32} {mT mC : Nat → Nat → Int32} {lf sf cf : Nat → Option Nat} {la : Nat → Nat} {lch : Nat → Int32} {lco : Nat → Nat} {lpa lwy : Nat → Int32} {sa : Nat → Nat} {stb : Nat → Int32} {sco ca cwa cpa : Nat → Nat} {ctb : Nat → Int32} {cln : Nat → Nat} {cwd : Nat → Nat → Nat} {ccol : Nat → Nat} {O D : Nat → Int32} {kR : Nat → Nat} {kO kD : Nat → Int32} {cw : Nat → Nat} {on on2 : Nat} {hi hi2 : Int32} {oO oD gn pl : Nat → Int32}
theorem kl_KF.mv (h : kl_KF G B w 0 0 0 0 0 0 0 (fun _ => 0) (fun _ => 0) (fun _ => -1) (fun _ => 0) (fun _ => -1) (fun _ => 0) (fun _ _ => -1) (fun _ _ => 0) (fun _ => 0) (fun _ => none) (fun _ => none) (fun _ => none)) (fr : ∀ j : Nat, j < 26 → w1 j = w j) : kl_KF G B w1 0 0 0 0 0 0 0 (fun _ => 0) (fun _ => 0) (fun _ => -1) (fun _ => 0) (fun _ => -1) (fun _ => 0) (fun _ _ => -1) (fun _ _ => 0) (fun _ => 0) (fun _ => none) (fun _ => none) (fun _ => none) := by
  obtain ⟨k0, k1, k2, k3, k4, k5, k6, k7, k8, k9, k10, k11, k12, k13, k14, k15, k16, k17, k18, k19, k20, k21, k22, k23, k24, k25⟩ := h
  exact ⟨(fr 0 (by decide)).trans k0, (fr 1 (by decide)).trans k1, (fr 2 (by decide)).trans k2, (fr 3 (by decide)).trans k3, (fr 4 (by decide)).trans k4, (fr 5 (by decide)).trans k5, (fr 6 (by decide)).trans k6, (fr 7 (by decide)).trans k7, (fr 8 (by decide)).trans k8, (fr 9 (by decide)).trans k9, (fr 10 (by decide)).trans k10, (fr 11 (by decide)).trans k11, (fr 12 (by decide)).trans k12, (fr 13 (by decide)).trans k13, (fr 14 (by decide)).trans k14, (fr 15 (by decide)).trans k15, (fr 16 (by decide)).trans k16, (fr 17 (by decide)).trans k17, (fr 18 (by decide)).trans k18, (fr 19 (by decide)).trans k19, (fr 20 (by decide)).trans k20, (fr 21 (by decide)).trans k21, (fr 22 (by decide)).trans k22, (fr 23 (by decide)).trans k23, (fr 24 (by decide)).trans k24, (fr 25 (by decide)).trans k25⟩
end LAWD
set_option maxHeartbeats 4000000 in
theorem law_loop {p : Program} {e : Env} {s : State} {m : MethodId} {below : List Frame} {meth : Method} {c : Code} (l : Launch) (hst : l.stackTraces = false) {b L : Nat} {xs : Nat → Int32} (G : kl_G) {B : Nat} (hx : p.tables.exec = Jvm.exec) (hb : c.code = cL_law) (hr : meth.sig.returnType = ret) (hlocks : meth.locks = false) (hml : c.maxLocals = 7) (hown : s.vm.findClass RL = some m.cls) (hts : ∀ w ∈ wsL_law, w.before #[Value.ref b] s = true) (hX : va_X b L xs s s.heap) (hbl : b < s.heap.size) (hB : B = s.heap.size) (hK : kl_K G s) (hZ : kl_Z B s s.heap) (hL : L ≤ 384) : ∀ (k i : Nat) (w : kl_M) (H : Heap) (locs : List Loc) (ls : Array Slot) (ec : Int32) (ol : Nat → Int64), L + 6 < i + k → i ≤ L + 6 → mr_I G B w ec ol → kl_S G B w s.heap H locs → lv_has ls 7 [(0, .ref b), (1, .ref (B + 0)), (2, .ref (B + 26)), (3, .ref (B + 47)), (4, .int (nI i))] →
    W p l e room_1 s m #[Value.ref b] below meth c H locs (1000 + 9 * i) (10000 + 90 * i) (lw_Z below #[Value.ref b] s) (F0 m 23 ls []) := by
  have hRc : 100000 ≤ room_1.cells := Nat.le_of_ble_eq_true rfl
  have hRs : 1000000 ≤ room_1.slots := Nat.le_of_ble_eq_true rfl
  intro k
  induction k with
  | zero => intro i w H locs ls ec ol h1 h2; omega
  | succ k ih =>
    intro i w H locs ls ec ol h1 h2 hI hP hl
    refine lv_iload hx hb dL_law_23 (lv_at hl 4 rfl) ?_
    refine lv_aload_n hx hb dL_law_25 rfl (lv_at hl 0 rfl) ?_
    refine va_slen hx hb hX hbl (A := fun q => B ≤ q) (by omega) (kl_SA hP) dL_law_26 ?_
    refine kl_top (z := nI L) rfl ?_
    refine lv_bipush (v := nI 6) hx hb dL_law_27 (by decide) ?_
    refine lv_isub hx hb dL_law_29 ?_
    refine lv_icmp_gt (tgt := 1242) hx hb dL_law_30 (by decide) (fun c30 => ?_) (fun c30 => ?_)
    · refine lv_iconst (v := nI 1) hx hb dL_law_1242 (by decide) ?_
      refine va_forget (fun q hq => by rw [← hB]; exact hP.2.2 q hq) ?_
      refine W.widen (k := room_1.cells) (n := room_1.slots) (by omega) (by omega) ?_
      exact lw_ret hx hb hr hlocks dL_law_1243
    · have hi6 := kl_le6 hL (by omega) c30
      have nxt : ∀ (w2 : kl_M) (H2 : Heap) (locs2 : List Loc) (ls2 : Array Slot) (ec2 : Int32) (ol2 : Nat → Int64), mr_I G B w2 ec2 ol2 → kl_S G B w2 s.heap H2 locs2 → lv_has ls2 7 [(0, .ref b), (1, .ref (B + 0)), (2, .ref (B + 26)), (3, .ref (B + 47)), (4, .int (nI i))] → W p l e room_1 s m #[Value.ref b] below meth c H2 locs2 (1000 + 9 * i + 50) (10000 + 90 * i + 500) (lw_Z below #[Value.ref b] s) (F0 m 1236 ls2 []) := by
        intro w2 H2 locs2 ls2 ec2 ol2 hI2 hP2 hl2
        refine lv_iinc (v := nI (i + 6)) (lv' := [(4, .int (nI (i + 6))), (0, .ref b), (1, .ref (B + 0)), (2, .ref (B + 26)), (3, .ref (B + 47))]) hx hb dL_law_1236 hl2 (k := 4) rfl (nI_add _ 6) (by decide) rfl (fun ls hl => ?_)
        refine lv_goto (tgt := 23) hx hb dL_law_1239 (by decide) ?_
        refine W.widen (k := 1000 + 9 * (i + 6)) (n := 10000 + 90 * (i + 6)) (by omega) (by omega) ?_
        exact ih (i + 6) _ _ _ _ _ _ (by omega) (by omega) hI2 hP2 (lv_sub hl [1, 2, 3, 4, 0] rfl)
      refine lv_aload_n hx hb dL_law_33 rfl (lv_at hl 0 rfl) ?_
      refine lv_iload hx hb dL_law_34 (lv_at hl 4 rfl) ?_
      refine kl_sld hx hb hX hbl (by omega) hP (by omega) hL dL_law_36 ?_
      refine lv_bipush (v := nI 31) hx hb dL_law_37 (by decide) ?_
      refine lv_iand hx hb dL_law_39 ?_
      obtain ⟨k9, hk9, ek⟩ := pk_andE (xs i) (m := nI 31) 5 (by decide)
      have hk9 : k9 < 32 := hk9
      refine kl_top (z := nI k9) ek ?_
      rcases (show k9 = 0 ∨ k9 = 1 ∨ k9 = 2 ∨ k9 = 3 ∨ k9 = 4 ∨ k9 = 5 ∨ k9 = 6 ∨ k9 = 7 ∨ k9 = 8 ∨ k9 = 9 ∨ k9 = 10 ∨ k9 = 11 ∨ k9 = 12 ∨ k9 = 13 ∨ k9 = 14 ∨ k9 = 15 ∨ k9 = 16 ∨ k9 = 17 ∨ k9 = 18 ∨ k9 = 19 ∨ k9 = 20 ∨ k9 = 21 ∨ k9 = 22 ∨ k9 = 23 ∨ k9 = 24 ∨ k9 = 25 ∨ k9 = 26 ∨ k9 = 27 ∨ k9 = 28 ∨ k9 = 29 ∨ k9 = 30 ∨ k9 = 31 by omega) with rfl | rfl | rfl | rfl | rfl | rfl | rfl | rfl | rfl | rfl | rfl | rfl | rfl | rfl | rfl | rfl | rfl | rfl | rfl | rfl | rfl | rfl | rfl | rfl | rfl | rfl | rfl | rfl | rfl | rfl | rfl | rfl
      · refine lv_tableIn (off := 84) (tgt := 124) hx hb dL_law_40 (by decide) (by decide) rfl (by decide) ?_
        exact law_table l hst G hx hb hml hown hts hX hbl (by omega) hK hZ ⟨by omega, by omega⟩ hi6 hL hI hP hl nxt
      · refine lv_tableIn (off := 140) (tgt := 180) hx hb dL_law_40 (by decide) (by decide) rfl (by decide) ?_
        exact law_link l hst G hx hb hml hown hts hX hbl (by omega) hK hZ ⟨by omega, by omega⟩ hi6 hL hI hP hl nxt
      · refine lv_tableIn (off := 232) (tgt := 272) hx hb dL_law_40 (by decide) (by decide) rfl (by decide) ?_
        exact law_single l hst G hx hb hml hown hts hX hbl (by omega) hK hZ ⟨by omega, by omega⟩ hi6 hL hI hP hl nxt
      · refine lv_tableIn (off := 300) (tgt := 340) hx hb dL_law_40 (by decide) (by decide) rfl (by decide) ?_
        exact law_word l hst G hx hb hml hown hts hX hbl (by omega) hK hZ ⟨by omega, by omega⟩ hi6 hL hI hP hl nxt
      · refine lv_tableIn (off := 356) (tgt := 396) hx hb dL_law_40 (by decide) (by decide) rfl (by decide) ?_
        exact law_check l hst G hx hb hml hown hts hX hbl (by omega) hK hZ ⟨by omega, by omega⟩ hi6 hL hI hP hl nxt
      · refine lv_tableIn (off := 412) (tgt := 452) hx hb dL_law_40 (by decide) (by decide) rfl (by decide) ?_
        exact law_insert l hst G hx hb hml hown hts hX hbl (by omega) hK hZ ⟨by omega, by omega⟩ hi6 hL hI hP hl nxt
      · refine lv_tableIn (off := 496) (tgt := 536) hx hb dL_law_40 (by decide) (by decide) rfl (by decide) ?_
        exact law_delete l hst G hx hb hml hown hts hX hbl (by omega) hK hZ ⟨by omega, by omega⟩ hi6 hL hI hP hl nxt
      · refine lv_tableIn (off := 576) (tgt := 616) hx hb dL_law_40 (by decide) (by decide) rfl (by decide) ?_
        exact law_update l hst G hx hb hml hown hts hX hbl (by omega) hK hZ ⟨by omega, by omega⟩ hi6 hL hI hP hl nxt
      · refine lv_tableIn (off := 668) (tgt := 708) hx hb dL_law_40 (by decide) (by decide) rfl (by decide) ?_
        exact law_shift l hst G hx hb hml hown hts hX hbl (by omega) hK hZ ⟨by omega, by omega⟩ hi6 hL hI hP hl nxt
      · refine lv_tableIn (off := 748) (tgt := 788) hx hb dL_law_40 (by decide) (by decide) rfl (by decide) ?_
        exact law_keep l hst G hx hb hml hown hts hX hbl (by omega) hK hZ ⟨by omega, by omega⟩ hi6 hL hI hP hl nxt
      · refine lv_tableIn (off := 792) (tgt := 832) hx hb dL_law_40 (by decide) (by decide) rfl (by decide) ?_
        exact law_back l hst G hx hb hml hown hts hX hbl (by omega) hK hZ ⟨by omega, by omega⟩ hi6 hL hI hP hl nxt
      · refine lv_tableIn (off := 836) (tgt := 876) hx hb dL_law_40 (by decide) (by decide) rfl (by decide) ?_
        exact law_has l hst G hx hb hml hown hts hX hbl (by omega) hK hZ ⟨by omega, by omega⟩ hi6 hL hI hP hl nxt
      · refine lv_tableIn (off := 911) (tgt := 951) hx hb dL_law_40 (by decide) (by decide) rfl (by decide) ?_
        exact law_cell l hst G hx hb hml hown hts hX hbl (by omega) hK hZ ⟨by omega, by omega⟩ hi6 hL hI hP hl nxt
      · refine lv_tableIn (off := 991) (tgt := 1031) hx hb dL_law_40 (by decide) (by decide) rfl (by decide) ?_
        exact law_key l hst G hx hb hml hown hts hX hbl (by omega) hK hZ ⟨by omega, by omega⟩ hi6 hL hI hP hl nxt
      · refine lv_tableIn (off := 1059) (tgt := 1099) hx hb dL_law_40 (by decide) (by decide) rfl (by decide) ?_
        exact law_count l hst G hx hb hml hown hts hX hbl (by omega) hK hZ ⟨by omega, by omega⟩ hi6 hL hI hP hl nxt
      · refine lv_tableIn (off := 1115) (tgt := 1155) hx hb dL_law_40 (by decide) (by decide) rfl (by decide) ?_
        exact law_referring l hst G hx hb hml hown hts hX hbl (by omega) hK hZ ⟨by omega, by omega⟩ hi6 hL hI hP hl nxt
      · refine lv_tableIn (off := 1183) (tgt := 1223) hx hb dL_law_40 (by decide) (by decide) rfl (by decide) ?_
        exact law_reason l hst G hx hb hml hown hts hX hbl (by omega) hK hZ ⟨by omega, by omega⟩ hi6 hL hI hP hl nxt
      · refine lv_tableOut (tgt := 1236) hx hb dL_law_40 (by decide) (by decide) ?_
        refine W.widen (k := 1000 + 9 * i + 50) (n := 10000 + 90 * i + 500) (by omega) (by omega) ?_
        exact nxt _ _ _ _ _ _ hI hP hl
      · refine lv_tableOut (tgt := 1236) hx hb dL_law_40 (by decide) (by decide) ?_
        refine W.widen (k := 1000 + 9 * i + 50) (n := 10000 + 90 * i + 500) (by omega) (by omega) ?_
        exact nxt _ _ _ _ _ _ hI hP hl
      · refine lv_tableOut (tgt := 1236) hx hb dL_law_40 (by decide) (by decide) ?_
        refine W.widen (k := 1000 + 9 * i + 50) (n := 10000 + 90 * i + 500) (by omega) (by omega) ?_
        exact nxt _ _ _ _ _ _ hI hP hl
      · refine lv_tableOut (tgt := 1236) hx hb dL_law_40 (by decide) (by decide) ?_
        refine W.widen (k := 1000 + 9 * i + 50) (n := 10000 + 90 * i + 500) (by omega) (by omega) ?_
        exact nxt _ _ _ _ _ _ hI hP hl
      · refine lv_tableOut (tgt := 1236) hx hb dL_law_40 (by decide) (by decide) ?_
        refine W.widen (k := 1000 + 9 * i + 50) (n := 10000 + 90 * i + 500) (by omega) (by omega) ?_
        exact nxt _ _ _ _ _ _ hI hP hl
      · refine lv_tableOut (tgt := 1236) hx hb dL_law_40 (by decide) (by decide) ?_
        refine W.widen (k := 1000 + 9 * i + 50) (n := 10000 + 90 * i + 500) (by omega) (by omega) ?_
        exact nxt _ _ _ _ _ _ hI hP hl
      · refine lv_tableOut (tgt := 1236) hx hb dL_law_40 (by decide) (by decide) ?_
        refine W.widen (k := 1000 + 9 * i + 50) (n := 10000 + 90 * i + 500) (by omega) (by omega) ?_
        exact nxt _ _ _ _ _ _ hI hP hl
      · refine lv_tableOut (tgt := 1236) hx hb dL_law_40 (by decide) (by decide) ?_
        refine W.widen (k := 1000 + 9 * i + 50) (n := 10000 + 90 * i + 500) (by omega) (by omega) ?_
        exact nxt _ _ _ _ _ _ hI hP hl
      · refine lv_tableOut (tgt := 1236) hx hb dL_law_40 (by decide) (by decide) ?_
        refine W.widen (k := 1000 + 9 * i + 50) (n := 10000 + 90 * i + 500) (by omega) (by omega) ?_
        exact nxt _ _ _ _ _ _ hI hP hl
      · refine lv_tableOut (tgt := 1236) hx hb dL_law_40 (by decide) (by decide) ?_
        refine W.widen (k := 1000 + 9 * i + 50) (n := 10000 + 90 * i + 500) (by omega) (by omega) ?_
        exact nxt _ _ _ _ _ _ hI hP hl
      · refine lv_tableOut (tgt := 1236) hx hb dL_law_40 (by decide) (by decide) ?_
        refine W.widen (k := 1000 + 9 * i + 50) (n := 10000 + 90 * i + 500) (by omega) (by omega) ?_
        exact nxt _ _ _ _ _ _ hI hP hl
      · refine lv_tableOut (tgt := 1236) hx hb dL_law_40 (by decide) (by decide) ?_
        refine W.widen (k := 1000 + 9 * i + 50) (n := 10000 + 90 * i + 500) (by omega) (by omega) ?_
        exact nxt _ _ _ _ _ _ hI hP hl
      · refine lv_tableOut (tgt := 1236) hx hb dL_law_40 (by decide) (by decide) ?_
        refine W.widen (k := 1000 + 9 * i + 50) (n := 10000 + 90 * i + 500) (by omega) (by omega) ?_
        exact nxt _ _ _ _ _ _ hI hP hl
      · refine lv_tableOut (tgt := 1236) hx hb dL_law_40 (by decide) (by decide) ?_
        refine W.widen (k := 1000 + 9 * i + 50) (n := 10000 + 90 * i + 500) (by omega) (by omega) ?_
        exact nxt _ _ _ _ _ _ hI hP hl
      · refine lv_tableOut (tgt := 1236) hx hb dL_law_40 (by decide) (by decide) ?_
        refine W.widen (k := 1000 + 9 * i + 50) (n := 10000 + 90 * i + 500) (by omega) (by omega) ?_
        exact nxt _ _ _ _ _ _ hI hP hl
def kl_clA (c0 c1 c2 c3 c4 c5 : ClassId) : Nat → ClassId := fun k => if k = 0 then c0 else if k = 1 then c1 else if k = 2 then c2 else if k = 3 then c3 else if k = 4 then c4 else c5
def kl_clB (c0 c1 c2 c3 c4 c5 : Nat → Nat) : Nat → Nat → Nat := fun k => if k = 0 then c0 else if k = 1 then c1 else if k = 2 then c2 else if k = 3 then c3 else if k = 4 then c4 else c5
def kl_clC (c0 c1 c2 c3 c4 c5 c6 : ClassId) : Nat → ClassId := fun k => if k = 0 then c0 else if k = 1 then c1 else if k = 2 then c2 else if k = 3 then c3 else if k = 4 then c4 else if k = 5 then c5 else c6
set_option maxHeartbeats 4000000 in
set_option maxRecDepth 100000 in
theorem whole_start {p : Program} {e : Env} {s : State} {m : MethodId} {below : List Frame} {meth : Method} {c : Code} (l : Launch) (hflags : l.flags = flags0) {b L : Nat} {xs : Nat → Int32} (hL : L ≤ 384) (C0 : lw_At p s m meth c b L xs) : W p l e room_1 s m #[Value.ref b] below meth c s.heap [] 0 0 (lw_Z below #[Value.ref b] s) (entryFrame m ([Value.ref b] : List Value).toArray 7) := by
  obtain ⟨hx, hb, hr, hml, hown, hts0, hX, hbl, hlocks, hgv⟩ := id C0
  have hs := flat_of_before _ hgv
  have hst : l.stackTraces = false := by
    show (!l.flags.contains noTraceFlag) = false
    rw [hflags]
    decide +kernel
  have hown : s.vm.findClass RL = some m.cls := hown
  have hb : c.code = cL_law := hb
  have hts : ∀ w ∈ wsL_law, w.before #[Value.ref b] s = true := fun w h => hts0 w (wsL_law_in w h)
  have hinX4 : ∀ w ∈ u_ws RX4 TX4 16, w ∈ wsL_law := inlX4
  have hinX5 : ∀ w ∈ u_ws RX5 TX5 31, w ∈ wsL_law := inlX5
  obtain ⟨c0, iS0, hKn0⟩ := u_known (C := RX0) (T := TX0) (N := 3) (n := 3) hts0 inX0 (hts0 (.instantiable RX0 3) (by decide +kernel))
  obtain ⟨c1, iS1, hKn1⟩ := u_known (C := RX1) (T := TX1) (N := 4) (n := 4) hts0 inX1 (hts0 (.instantiable RX1 4) (by decide +kernel))
  obtain ⟨c2, iS2, hKn2⟩ := u_known (C := RX2) (T := TX2) (N := 2) (n := 2) hts0 inX2 (hts0 (.instantiable RX2 2) (by decide +kernel))
  obtain ⟨c3, iS3, hKn3⟩ := u_known (C := RX3) (T := TX3) (N := 2) (n := 2) hts0 inX3 (hts0 (.instantiable RX3 2) (by decide +kernel))
  obtain ⟨c4, iS4, hKn4⟩ := u_known (C := RX4) (T := TX4) (N := 16) (n := 16) hts0 inX4 (hts0 (.instantiable RX4 16) (by decide +kernel))
  obtain ⟨c5, iS5, hKn5⟩ := u_known (C := RX5) (T := TX5) (N := 31) (n := 31) hts0 inX5 (hts0 (.instantiable RX5 31) (by decide +kernel))
  obtain ⟨a0, hA0, hN0⟩ := kl_arrK (hts0 (.arrayClass .int) (by decide +kernel))
  obtain ⟨a1, hA1, hN1⟩ := kl_arrK (hts0 (.arrayClass .boolean) (by decide +kernel))
  obtain ⟨a2, hA2, hN2⟩ := kl_arrK (hts0 (.arrayClass .long) (by decide +kernel))
  obtain ⟨a3, hA3, hN3⟩ := kl_arrO (hts0 (.arrayOver (.object RX1)) (by decide +kernel))
  obtain ⟨a4, hA4, hN4⟩ := kl_arrO (hts0 (.arrayOver (.object RX3)) (by decide +kernel))
  obtain ⟨a5, hA5, hN5⟩ := kl_arrO (hts0 (.arrayOver (.object RX0)) (by decide +kernel))
  obtain ⟨a6, hA6, hN6⟩ := kl_arrO (hts0 (.arrayOver (.object RX2)) (by decide +kernel))
  obtain ⟨G, hG⟩ : ∃ G : kl_G, kl_K G s := by
    refine ⟨((kl_clA c0 c1 c2 c3 c4 c5, kl_clB iS0 iS1 iS2 iS3 iS4 iS5), kl_clC a0 a1 a2 a3 a4 a5 a6), ⟨fun k q hq => ?_, fun k q hq => ?_⟩, ?_⟩
    · match k, hq with
      | 0, hq => cases hq; exact hKn0
      | 1, hq => cases hq; exact hKn1
      | 2, hq => cases hq; exact hKn2
      | 3, hq => cases hq; exact hKn3
      | 4, hq => cases hq; exact hKn4
      | 5, hq => cases hq; exact hKn5
      | k + 6, hq => simp [vwCl] at hq
    · match k, hq with
      | 0, hq => cases hq; exact ⟨hA0, hN0⟩
      | 1, hq => cases hq; exact ⟨hA1, hN1⟩
      | 2, hq => cases hq; exact ⟨hA2, hN2⟩
      | 3, hq => cases hq; exact ⟨hA3, hN3⟩
      | 4, hq => cases hq; exact ⟨hA4, hN4⟩
      | 5, hq => cases hq; exact ⟨hA5, hN5⟩
      | 6, hq => cases hq; exact ⟨hA6, hN6⟩
      | k + 7, hq => simp [kl_T] at hq
    · exact ⟨(List.forall_mem_cons.mpr ⟨va_Nw.of rfl (hts0 (.castable "[I" "java/lang/Cloneable") (by decide +kernel)), (List.forall_mem_cons.mpr ⟨va_Nw.of rfl (hts0 (.castable "java/lang/IllegalArgumentException" "java/lang/IllegalArgumentException") (by decide +kernel)), (List.forall_mem_cons.mpr ⟨va_Nw.of rfl (hts0 (.castable "java/util/NoSuchElementException" "java/util/NoSuchElementException") (by decide +kernel)), (List.forall_mem_cons.mpr ⟨va_Nw.of rfl (hts0 (.castable "java/lang/IllegalStateException" "java/lang/IllegalStateException") (by decide +kernel)), (List.forall_mem_cons.mpr ⟨va_Nw.of rfl (hts0 (.castable "java/lang/IndexOutOfBoundsException" "java/lang/IndexOutOfBoundsException") (by decide +kernel)), (fun _ h => absurd h List.not_mem_nil)⟩)⟩)⟩)⟩)⟩), (List.forall_mem_cons.mpr ⟨va_Nc.of (hs (.not (.castable "java/util/NoSuchElementException" "java/lang/IllegalArgumentException")) (by decide +kernel)), (List.forall_mem_cons.mpr ⟨va_Nc.of (hs (.not (.castable "java/lang/IllegalStateException" "java/lang/IllegalArgumentException")) (by decide +kernel)), (List.forall_mem_cons.mpr ⟨va_Nc.of (hs (.not (.castable "java/lang/IllegalStateException" "java/util/NoSuchElementException")) (by decide +kernel)), (List.forall_mem_cons.mpr ⟨va_Nc.of (hs (.not (.castable "java/lang/IndexOutOfBoundsException" "java/lang/IllegalArgumentException")) (by decide +kernel)), (fun _ h => absurd h List.not_mem_nil)⟩)⟩)⟩)⟩), (List.forall_mem_cons.mpr ⟨va_AO.of (hts0 (.arrayOver (.object RX0)) (by decide +kernel)), (List.forall_mem_cons.mpr ⟨va_AO.of (hts0 (.arrayOver (.object RX1)) (by decide +kernel)), (List.forall_mem_cons.mpr ⟨va_AO.of (hts0 (.arrayOver (.object RX2)) (by decide +kernel)), (List.forall_mem_cons.mpr ⟨va_AO.of (hts0 (.arrayOver (.object RX3)) (by decide +kernel)), (fun _ h => absurd h List.not_mem_nil)⟩)⟩)⟩)⟩), (List.forall_mem_cons.mpr ⟨va_Nw.of rfl (hts0 (.declares (Bundle.init0 "java/lang/RuntimeException")) (by decide +kernel)), (List.forall_mem_cons.mpr ⟨va_Nw.of rfl (hts0 (.declares (Bundle.init0 "java/lang/Exception")) (by decide +kernel)), (List.forall_mem_cons.mpr ⟨va_Nw.of rfl (hts0 (.declares (Bundle.init0 "java/lang/Throwable")) (by decide +kernel)), (fun _ h => absurd h List.not_mem_nil)⟩)⟩)⟩)⟩
  have hK := hG
  obtain ⟨B, hB⟩ : ∃ B : Nat, B = s.heap.size := ⟨_, rfl⟩
  have hbB : b < B := by omega
  have hZ : kl_Z B s s.heap := ⟨vx_Zqof (hts0 (.laysStatic Bundle.tN "UNASSIGNED_STACK" Bundle.steD) (by decide +kernel)) (hts0 (.initialized Bundle.tN) (by decide +kernel)) (hs (.isRef (.static Bundle.tN "UNASSIGNED_STACK" Bundle.steD)) (by decide +kernel)) (fun a h => Nat.not_le.mpr (by omega)), vx_Zqof (hts0 (.laysStatic Bundle.tN "SUPPRESSED_SENTINEL" Bundle.listD) (by decide +kernel)) (hts0 (.initialized Bundle.tN) (by decide +kernel)) (hs (.isRef (.static Bundle.tN "SUPPRESSED_SENTINEL" Bundle.listD)) (by decide +kernel)) (fun a h => Nat.not_le.mpr (by omega))⟩
  have hz0 : s.heap.size = B + 0 := by omega
  have hP : kl_S G B (fun _ => none) s.heap s.heap [] := kl_S.rf ⟨by omega, fun i e h => by cases h⟩
  have hl := lv_entry ([.ref b]) (n := 7) (Nat.le_of_ble_eq_true rfl)
  rw [lg_entry_eq]
  generalize (lg_sl ([.ref b]) ++ List.replicate (7 - (lg_sl ([.ref b])).length) Slot.unset).toArray = ls at hl ⊢
  have hl : lv_has ls 7 [(0, .ref b)] := hl
  refine kl_new (ci := 4) (fs := [.null, .int 0, .null, .int 0, .null, .int 0, .null, .int 0, .null, .int 0, .null, .null, .null, .int 0, .null, .int 0]) (C := RX4) (T := TX4) (N := 16) hx hb hts hinX4 tyX4 tyX4_ok hown (hts (.classLink RL 8 RX4) (by decide +kernel)) (hts (.instantiable RX4 16) (by decide +kernel)) (hts (.initialized RX4) (by decide +kernel)) hK hP rfl (fun j hj => by rcases (show j = 0 ∨ j = 1 ∨ j = 2 ∨ j = 3 ∨ j = 4 ∨ j = 5 ∨ j = 6 ∨ j = 7 ∨ j = 8 ∨ j = 9 ∨ j = 10 ∨ j = 11 ∨ j = 12 ∨ j = 13 ∨ j = 14 ∨ j = 15 by omega) with rfl | rfl | rfl | rfl | rfl | rfl | rfl | rfl | rfl | rfl | rfl | rfl | rfl | rfl | rfl | rfl <;> rfl) (Nat.le_of_ble_eq_true rfl) (Nat.le_of_ble_eq_true rfl) dL_law_0 (fun a1 w2 H hq5 f3 fr4 hzw2 hP => ?_)
  have z6 : H.size = B + 1 := by omega
  obtain rfl : 0 = a1 := by omega
  have f3 : w2 0 = some (.inr (4, [.null, .int (nI 0), .null, .int (nI 0), .null, .int (nI 0), .null, .int (nI 0), .null, .int (nI 0), .null, .null, .null, .int (nI 0), .null, .int (nI 0)])) := f3
  refine lv_dup hx hb dL_law_3 rfl ?_
  refine kl_cIz (i := 0) (As := []) (rest := [.ref (B + 0)]) ⟨hx, hb, hml, hown, hts⟩ (c_X4_init l G B _ f3) (cwI 0 hts gL_law_X4_init rfl rfl rfl (hts (.initialized RX4) (by decide +kernel)) (hts (.methodLink RL 72 yX4_init) (by decide +kernel)) (hts (.instanceMethod yX4_init) (by decide +kernel)) rfl (by decide +kernel) ⟨Nat.le_of_ble_eq_true rfl, Nat.le_of_ble_eq_true rfl⟩) (by omega) hK hP rfl hl.1 rfl (Nat.le_of_ble_eq_true rfl) dL_law_4 ⟨Nat.le_of_ble_eq_true rfl, Nat.le_of_ble_eq_true rfl⟩ (fun w7 H locs q8 hzw7 hP => ?_)
  have z9 : H.size = B + 26 := by omega
  have hKF := q8
  refine lv_astore_n (lv' := [(1, .ref (B + 0)), (0, .ref b)]) hx hb dL_law_7 rfl hl (by decide) rfl (fun ls hl => ?_)
  refine kl_new (ci := 5) (fs := [.int 0, .int 0, .int 0, .null, .int 0, .null, .null, .int 0, .null, .null, .null, .int 0, .null, .null, .null, .null, .int 0, .null, .null, .int 0, .null, .null, .null, .int 0, .null, .int 0, .null, .int 0, .null, .null, .null]) (C := RX5) (T := TX5) (N := 31) hx hb hts hinX5 tyX5 tyX5_ok hown (hts (.classLink RL 73 RX5) (by decide +kernel)) (hts (.instantiable RX5 31) (by decide +kernel)) (hts (.initialized RX5) (by decide +kernel)) hK hP rfl (fun j hj => by rcases (show j = 0 ∨ j = 1 ∨ j = 2 ∨ j = 3 ∨ j = 4 ∨ j = 5 ∨ j = 6 ∨ j = 7 ∨ j = 8 ∨ j = 9 ∨ j = 10 ∨ j = 11 ∨ j = 12 ∨ j = 13 ∨ j = 14 ∨ j = 15 ∨ j = 16 ∨ j = 17 ∨ j = 18 ∨ j = 19 ∨ j = 20 ∨ j = 21 ∨ j = 22 ∨ j = 23 ∨ j = 24 ∨ j = 25 ∨ j = 26 ∨ j = 27 ∨ j = 28 ∨ j = 29 ∨ j = 30 by omega) with rfl | rfl | rfl | rfl | rfl | rfl | rfl | rfl | rfl | rfl | rfl | rfl | rfl | rfl | rfl | rfl | rfl | rfl | rfl | rfl | rfl | rfl | rfl | rfl | rfl | rfl | rfl | rfl | rfl | rfl | rfl <;> rfl) (Nat.le_of_ble_eq_true rfl) (Nat.le_of_ble_eq_true rfl) dL_law_8 (fun a10 w11 H hq14 f12 fr13 hzw11 hP => ?_)
  have z15 : H.size = B + 27 := by omega
  obtain rfl : 26 = a10 := by omega
  have f12 : w11 26 = some (.inr (5, [.int (nI 0), .int (nI 0), .int (nI 0), .null, .int (nI 0), .null, .null, .int (nI 0), .null, .null, .null, .int (nI 0), .null, .null, .null, .null, .int (nI 0), .null, .null, .int (nI 0), .null, .null, .null, .int (nI 0), .null, .int (nI 0), .null, .int (nI 0), .null, .null, .null])) := f12
  have hKF := kl_KF.mv hKF (fun j hj => fr13 j (by omega))
  refine lv_dup hx hb dL_law_11 rfl ?_
  refine kl_cIz (i := 26) (As := []) (rest := [.ref (B + 26)]) ⟨hx, hb, hml, hown, hts⟩ (c_X5_init l G B _ f12) (cwI 0 hts gL_law_X5_init rfl rfl rfl (hts (.initialized RX5) (by decide +kernel)) (hts (.methodLink RL 75 yX5_init) (by decide +kernel)) (hts (.instanceMethod yX5_init) (by decide +kernel)) rfl (by decide +kernel) ⟨Nat.le_of_ble_eq_true rfl, Nat.le_of_ble_eq_true rfl⟩) (by omega) hK hP rfl hl.1 rfl (Nat.le_of_ble_eq_true rfl) dL_law_12 ⟨Nat.le_of_ble_eq_true rfl, Nat.le_of_ble_eq_true rfl⟩ (fun w16 H locs q17 hzw16 hP => ?_)
  have z18 : H.size = B + 47 := by omega
  obtain ⟨hMF, hfr26⟩ := q17
  have hKF := kl_KF.mv hKF hfr26
  refine lv_astore_n (lv' := [(2, .ref (B + 26)), (1, .ref (B + 0)), (0, .ref b)]) hx hb dL_law_15 rfl hl (by decide) rfl (fun ls hl => ?_)
  refine lv_iconst (v := nI 1) hx hb dL_law_16 (by decide) ?_
  refine kl_newL hx hb (hts (.arrayClass .long) (by decide +kernel)) hK hP (n := 1) (by omega) (Nat.le_of_ble_eq_true rfl) (by first | exact Nat.le_of_ble_eq_true rfl | (show 0 + 16 + 788 + 31 + 872 + 1 ≤ room_1.slots; omega)) dL_law_17 (fun a19 w20 H hq23 f21 fr22 hzw20 hP => ?_)
  have z24 : H.size = B + 48 := by omega
  obtain rfl : 47 = a19 := by omega
  have f21 : w20 47 = some (kl_aL G 1 ((fun _ => 0))) := f21
  have hKF := kl_KF.mv hKF (fun j hj => fr22 j (by omega))
  have hMF := md_KF.mv hMF (fun j h1 h2 => fr22 j (by omega))
  refine lv_astore_n (lv' := [(3, .ref (B + 47)), (2, .ref (B + 26)), (1, .ref (B + 0)), (0, .ref b)]) hx hb dL_law_19 rfl hl (by decide) rfl (fun ls hl => ?_)
  refine lv_iconst (v := nI 0) hx hb dL_law_20 (by decide) ?_
  refine lv_istore (lv' := [(4, .int (nI 0)), (3, .ref (B + 47)), (2, .ref (B + 26)), (1, .ref (B + 0)), (0, .ref b)]) hx hb dL_law_21 hl (by decide) rfl (fun ls hl => ?_)
  refine W.widen (k := 1000 + 9 * 0) (n := 10000 + 90 * 0) (by omega) (by omega) ?_
  exact law_loop l hst G hx hb hr hlocks hml hown hts hX hbl hB hK hZ hL (L + 7) 0 _ _ _ _ _ _ (by omega) (by omega) (mr_I0 hKF hMF f21) hP (lv_sub hl [4, 3, 2, 1, 0] rfl)
