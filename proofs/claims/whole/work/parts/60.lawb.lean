/-! The law, case by case. -/
set_option maxHeartbeats 4000000 in
set_option maxRecDepth 100000 in
theorem law_table {p : Program} {e : Env} {s : State} {m : MethodId} {below : List Frame} {meth : Method} {c : Code} (l : Launch) (hst : l.stackTraces = false) {b L : Nat} {xs : Nat → Int32} (G : kl_G) {B : Nat} (hx : p.tables.exec = Jvm.exec) (hb : c.code = cL_law) (hml : c.maxLocals = 7) (hown : s.vm.findClass RL = some m.cls) (hts : ∀ w ∈ wsL_law, w.before #[Value.ref b] s = true) (hX : va_X b L xs s s.heap) (hbl : b < s.heap.size) (hbB : b < B) (hK : kl_K G s) (hZ : kl_Z B s s.heap) {Q : State → Prop} {cells slots : Nat} (hcs : cells + 100 ≤ room_1.cells ∧ slots + 3000 ≤ room_1.slots) {w : kl_M} {H : Heap} {locs : List Loc} {ls : Array Slot} {i : Nat} (hi : i + 6 ≤ L) (hL : L ≤ 384) {ec : Int32} {ol : Nat → Int64} (hI : mr_I G B w ec ol) (hP : kl_S G B w s.heap H locs) (hl : lv_has ls 7 [(0, .ref b), (1, .ref (B + 0)), (2, .ref (B + 26)), (3, .ref (B + 47)), (4, .int (nI i))])
    (kk : ∀ (w2 : kl_M) (H2 : Heap) (locs2 : List Loc) (ls2 : Array Slot) (ec2 : Int32) (ol2 : Nat → Int64), mr_I G B w2 ec2 ol2 → kl_S G B w2 s.heap H2 locs2 → lv_has ls2 7 [(0, .ref b), (1, .ref (B + 0)), (2, .ref (B + 26)), (3, .ref (B + 47)), (4, .int (nI i))] → W p l e room_1 s m #[Value.ref b] below meth c H2 locs2 (cells + 50) (slots + 500) Q (F0 m 1236 ls2 [])) :
    W p l e room_1 s m #[Value.ref b] below meth c H locs cells slots Q (F0 m 124 ls []) := by
  obtain ⟨nT, nL, nS, nC, nW, nM, n, rs, cn, wt, T, C, mT, mC, lf, sf, cf, la, lch, lco, lpa, lwy, sa, stb, sco, ca, cwa, cpa, ctb, cln, cwd, ccol, O, D, kR, kO, kD, cw, hJ⟩ := hI
  have hJ2 := hJ
  obtain ⟨⟨dT, dC, gg, k0, k1, k2, k3, k4, k5, k6, k7, k8, k9, k10, k11, k12, k13, k14, k15, k16, k17, k18, k19, k20, k21, k22, k23, k24, k25⟩, hru, ⟨on, hi9, oO, oD, gn, pl, hMF⟩, k47, ⟨⟨m1, m2, m3, m4, m5, m6⟩, hcn2, hwt⟩, hRC, hRW, hW, hM⟩ := hJ2
  have hcn4 : ∀ j, j < nT → cn j ≤ 4 := fun j hj => (hcn2 j hj).2
  have hu := hJ.uniq
  have hpar := hRC.par
  have hn24 : n ≤ 24 := hRW.2.2.2.2
  have hrp := hRC.2.1
  have hrl3 : ∀ j, j < nL → lch j ≠ -1 ∧ lpa j ≠ -1 ∧ lco j < 4 := fun j hj => ⟨(hrp.1 j hj).1, (hrp.1 j hj).2.1, (hrp.1 j hj).2.2.1.2⟩
  have hkR : ∀ j, j < nM → kR j ≤ 24 := fun j hj => (hM j hj).2.2.2.2
  refine lv_aload_n hx hb dL_law_124 rfl (lv_at hl 1 rfl) ?_
  refine lv_aload_n hx hb dL_law_125 rfl (lv_at hl 0 rfl) ?_
  refine lv_iload hx hb dL_law_126 (lv_at hl 4 rfl) ?_
  refine lv_iconst (v := nI 1) hx hb dL_law_128 (by decide) ?_
  refine lv_iadd hx hb dL_law_129 ?_
  refine kl_top (z := nI (i + 1)) (by first | exact nI_add _ _ | (rw [nI_add]; first | rfl | (congr 1; omega))) ?_
  refine kl_sld hx hb hX hbl hbB hP (by omega) hL dL_law_130 ?_
  refine lv_aload_n hx hb dL_law_131 rfl (lv_at hl 3 rfl) ?_
  refine klx_cSXi (As := [.ref (B + 0), .int (xs (i + 1)), .ref (B + 47)]) (rest := []) ⟨hx, hb, hml, hown, hts⟩ (c_L_table l hst G B _ (xs (i + 1)) k0 k1 k47 m1) (vx_cwSW 3 hts gL_law_L_table rfl rfl rfl (by decide +kernel) ⟨Nat.le_of_ble_eq_true rfl, Nat.le_of_ble_eq_true rfl⟩) hK hZ hP rfl hl.1 rfl (Nat.le_of_ble_eq_true rfl) dL_law_132 ⟨by show cells + 2 ≤ room_1.cells; omega, by show slots + 12 ≤ room_1.slots; omega⟩ (fun _ _ _ _ _ _ hpx _ _ _ _ => hpx.elim) (fun r3 w1 H locs q2 hP => ?_)
  have hMF1 := opm_table (xs (i + 1)) hMF q2
  obtain ⟨q26, q27, q28, q29, q30, q31, q32, q33, q34, q35, q36, q37, q38, q39, q40, q41, q42, q43, q44, q45, q46⟩ := hMF1
  refine lv_istore (lv' := [(5, .int r3), (0, .ref b), (1, .ref (B + 0)), (2, .ref (B + 26)), (3, .ref (B + 47)), (4, .int (nI i))]) hx hb dL_law_135 hl (by decide) rfl (fun ls hl => ?_)
  refine lv_aload_n hx hb dL_law_137 rfl (lv_at hl 3 rfl) ?_
  refine lv_aload_n hx hb dL_law_138 rfl (lv_at hl 1 rfl) ?_
  refine lv_iload hx hb dL_law_139 (lv_at hl 5 rfl) ?_
  refine lv_iconst (v := nI 1) hx hb dL_law_141 (by decide) ?_
  refine lv_iadd hx hb dL_law_142 ?_
  refine kl_top (z := nI (i + 1)) (by first | exact nI_add _ _ | (rw [nI_add]; first | rfl | (congr 1; omega))) ?_
  refine kl_sld hx hb hX hbl hbB hP (by omega) hL dL_law_143 ?_
  refine kl_cVi (C := RX5) (i := 26) (As := [.int (xs (i + 1))]) (rest := []) ⟨hx, hb, hml, hown, hts⟩ (c_X5_table l G B _ (xs (i + 1)) q26 q27 m1) (cwV 1 hts gL_law_X5_table rfl rfl rfl (by decide +kernel) ⟨Nat.le_of_ble_eq_true rfl, Nat.le_of_ble_eq_true rfl⟩) hK hP q26 rfl rfl hl.1 rfl (Nat.le_of_ble_eq_true rfl) dL_law_144 ⟨by show cells + 2 + 0 ≤ room_1.cells; omega, by show slots + 12 + 0 ≤ room_1.slots; omega⟩ (fun r6 w4 H locs q5 hP => ?_)
  obtain ⟨ol3, hI2, hout⟩ := op_table (xs (i + 1)) hJ hMF q2 q5
  have hI3 := hI2
  obtain ⟨nT3, nL3, nS3, nC3, nW3, nM3, n3, rs3, cn3, wt3, T3, C3, mT3, mC3, lf3, sf3, cf3, la3, lch3, lco3, lpa3, lwy3, sa3, stb3, sco3, ca3, cwa3, cpa3, ctb3, cln3, cwd3, ccol3, O3, D3, kR3, kO3, kD3, cw3, hJ3⟩ := hI3
  obtain ⟨-, -, ⟨on3, hi3, oO3, oD3, gn3, pl3, hMF3⟩, f473, -⟩ := hJ3
  have f263 := hMF3.1
  refine lv_istore (lv' := [(6, .int r6), (5, .int r3), (0, .ref b), (1, .ref (B + 0)), (2, .ref (B + 26)), (3, .ref (B + 47)), (4, .int (nI i))]) hx hb dL_law_147 hl (by decide) rfl (fun ls hl => ?_)
  refine lv_aload_n hx hb dL_law_149 rfl (lv_at hl 4 rfl) ?_
  refine kl_cVi (C := RX5) (i := 26) (As := []) (rest := []) ⟨hx, hb, hml, hown, hts⟩ (c_X5_thrown l G B _ f263) (cwV 0 hts gL_law_X5_thrown rfl rfl rfl (by decide +kernel) ⟨Nat.le_of_ble_eq_true rfl, Nat.le_of_ble_eq_true rfl⟩) hK hP f263 rfl rfl hl.1 rfl (Nat.le_of_ble_eq_true rfl) dL_law_150 ⟨by show cells + 2 + 0 + 0 ≤ room_1.cells; omega, by show slots + 12 + 0 + 0 ≤ room_1.slots; omega⟩ (fun r9 w7 H locs q8 hP => ?_)
  obtain ⟨hw9, hr9⟩ := q8
  subst hw9
  refine kl_top (z := r3) hr9 ?_
  refine lv_iload hx hb dL_law_153 (lv_at hl 1 rfl) ?_
  refine lv_icmp_eq (tgt := 160) hx hb dL_law_155 (by decide) (fun c155 => ?_) (fun c155 => absurd rfl c155)
  refine lv_iload hx hb dL_law_160 (lv_at hl 1 rfl) ?_
  refine lv_if_ne (tgt := 177) hx hb dL_law_162 (by decide) (fun c162 => ?_) (fun c162 => ?_)
  · refine lv_goto (tgt := 1236) hx hb dL_law_177 (by decide) ?_
    refine W.widen (k := cells + 50) (n := slots + 500) (by omega) (by omega) ?_
    exact kk _ _ _ _ _ _ hI2 hP (lv_sub hl [2, 3, 4, 5, 6] rfl)
  · refine lv_aload_n hx hb dL_law_165 rfl (lv_at hl 5 rfl) ?_
    refine lv_iconst (v := nI 0) hx hb dL_law_166 (by decide) ?_
    refine kl_lald hx hb hK hP f473 (by omega) (by omega) dL_law_167 ?_
    refine lv_iload hx hb dL_law_168 (lv_at hl 0 rfl) ?_
    refine lv_i2l hx hb dL_law_170 rfl ?_
    refine W.lcmp hx hb dL_law_171 ?_
    refine lv_if_eq (tgt := 177) hx hb dL_law_172 (by decide) (fun c172 => ?_) (fun c172 => absurd (by rw [hout c162]; simp [lg_cmp]) c172)
    refine lv_goto (tgt := 1236) hx hb dL_law_177 (by decide) ?_
    refine W.widen (k := cells + 50) (n := slots + 500) (by omega) (by omega) ?_
    exact kk _ _ _ _ _ _ hI2 hP (lv_sub hl [2, 3, 4, 5, 6] rfl)

set_option maxHeartbeats 4000000 in
set_option maxRecDepth 100000 in
theorem law_link {p : Program} {e : Env} {s : State} {m : MethodId} {below : List Frame} {meth : Method} {c : Code} (l : Launch) (hst : l.stackTraces = false) {b L : Nat} {xs : Nat → Int32} (G : kl_G) {B : Nat} (hx : p.tables.exec = Jvm.exec) (hb : c.code = cL_law) (hml : c.maxLocals = 7) (hown : s.vm.findClass RL = some m.cls) (hts : ∀ w ∈ wsL_law, w.before #[Value.ref b] s = true) (hX : va_X b L xs s s.heap) (hbl : b < s.heap.size) (hbB : b < B) (hK : kl_K G s) (hZ : kl_Z B s s.heap) {Q : State → Prop} {cells slots : Nat} (hcs : cells + 100 ≤ room_1.cells ∧ slots + 3000 ≤ room_1.slots) {w : kl_M} {H : Heap} {locs : List Loc} {ls : Array Slot} {i : Nat} (hi : i + 6 ≤ L) (hL : L ≤ 384) {ec : Int32} {ol : Nat → Int64} (hI : mr_I G B w ec ol) (hP : kl_S G B w s.heap H locs) (hl : lv_has ls 7 [(0, .ref b), (1, .ref (B + 0)), (2, .ref (B + 26)), (3, .ref (B + 47)), (4, .int (nI i))])
    (kk : ∀ (w2 : kl_M) (H2 : Heap) (locs2 : List Loc) (ls2 : Array Slot) (ec2 : Int32) (ol2 : Nat → Int64), mr_I G B w2 ec2 ol2 → kl_S G B w2 s.heap H2 locs2 → lv_has ls2 7 [(0, .ref b), (1, .ref (B + 0)), (2, .ref (B + 26)), (3, .ref (B + 47)), (4, .int (nI i))] → W p l e room_1 s m #[Value.ref b] below meth c H2 locs2 (cells + 50) (slots + 500) Q (F0 m 1236 ls2 [])) :
    W p l e room_1 s m #[Value.ref b] below meth c H locs cells slots Q (F0 m 180 ls []) := by
  obtain ⟨nT, nL, nS, nC, nW, nM, n, rs, cn, wt, T, C, mT, mC, lf, sf, cf, la, lch, lco, lpa, lwy, sa, stb, sco, ca, cwa, cpa, ctb, cln, cwd, ccol, O, D, kR, kO, kD, cw, hJ⟩ := hI
  have hJ2 := hJ
  obtain ⟨⟨dT, dC, gg, k0, k1, k2, k3, k4, k5, k6, k7, k8, k9, k10, k11, k12, k13, k14, k15, k16, k17, k18, k19, k20, k21, k22, k23, k24, k25⟩, hru, ⟨on, hi9, oO, oD, gn, pl, hMF⟩, k47, ⟨⟨m1, m2, m3, m4, m5, m6⟩, hcn2, hwt⟩, hRC, hRW, hW, hM⟩ := hJ2
  have hcn4 : ∀ j, j < nT → cn j ≤ 4 := fun j hj => (hcn2 j hj).2
  have hu := hJ.uniq
  have hpar := hRC.par
  have hn24 : n ≤ 24 := hRW.2.2.2.2
  have hrp := hRC.2.1
  have hrl3 : ∀ j, j < nL → lch j ≠ -1 ∧ lpa j ≠ -1 ∧ lco j < 4 := fun j hj => ⟨(hrp.1 j hj).1, (hrp.1 j hj).2.1, (hrp.1 j hj).2.2.1.2⟩
  have hkR : ∀ j, j < nM → kR j ≤ 24 := fun j hj => (hM j hj).2.2.2.2
  refine lv_aload_n hx hb dL_law_180 rfl (lv_at hl 1 rfl) ?_
  refine lv_aload_n hx hb dL_law_181 rfl (lv_at hl 0 rfl) ?_
  refine lv_iload hx hb dL_law_182 (lv_at hl 4 rfl) ?_
  refine lv_iconst (v := nI 1) hx hb dL_law_184 (by decide) ?_
  refine lv_iadd hx hb dL_law_185 ?_
  refine kl_top (z := nI (i + 1)) (by first | exact nI_add _ _ | (rw [nI_add]; first | rfl | (congr 1; omega))) ?_
  refine kl_sld hx hb hX hbl hbB hP (by omega) hL dL_law_186 ?_
  refine lv_aload_n hx hb dL_law_187 rfl (lv_at hl 0 rfl) ?_
  refine lv_iload hx hb dL_law_188 (lv_at hl 4 rfl) ?_
  refine lv_iconst (v := nI 2) hx hb dL_law_190 (by decide) ?_
  refine lv_iadd hx hb dL_law_191 ?_
  refine kl_top (z := nI (i + 2)) (by first | exact nI_add _ _ | (rw [nI_add]; first | rfl | (congr 1; omega))) ?_
  refine kl_sld hx hb hX hbl hbB hP (by omega) hL dL_law_192 ?_
  refine lv_aload_n hx hb dL_law_193 rfl (lv_at hl 0 rfl) ?_
  refine lv_iload hx hb dL_law_194 (lv_at hl 4 rfl) ?_
  refine lv_iconst (v := nI 3) hx hb dL_law_196 (by decide) ?_
  refine lv_iadd hx hb dL_law_197 ?_
  refine kl_top (z := nI (i + 3)) (by first | exact nI_add _ _ | (rw [nI_add]; first | rfl | (congr 1; omega))) ?_
  refine kl_sld hx hb hX hbl hbB hP (by omega) hL dL_law_198 ?_
  refine lv_aload_n hx hb dL_law_199 rfl (lv_at hl 0 rfl) ?_
  refine lv_iload hx hb dL_law_200 (lv_at hl 4 rfl) ?_
  refine lv_iconst (v := nI 4) hx hb dL_law_202 (by decide) ?_
  refine lv_iadd hx hb dL_law_203 ?_
  refine kl_top (z := nI (i + 4)) (by first | exact nI_add _ _ | (rw [nI_add]; first | rfl | (congr 1; omega))) ?_
  refine kl_sld hx hb hX hbl hbB hP (by omega) hL dL_law_204 ?_
  refine lv_aload_n hx hb dL_law_205 rfl (lv_at hl 3 rfl) ?_
  refine klx_cSXi (As := [.ref (B + 0), .int (xs (i + 1)), .int (xs (i + 2)), .int (xs (i + 3)), .int (xs (i + 4)), .ref (B + 47)]) (rest := []) ⟨hx, hb, hml, hown, hts⟩ (c_L_link l hst G B _ (xs (i + 1)) (xs (i + 2)) (xs (i + 3)) (xs (i + 4)) k0 k1 k2 k6 k7 k8 k47 m1 m2 hcn4) (vx_cwSW 6 hts gL_law_L_link rfl rfl rfl (by decide +kernel) ⟨Nat.le_of_ble_eq_true rfl, Nat.le_of_ble_eq_true rfl⟩) hK hZ hP rfl hl.1 rfl (Nat.le_of_ble_eq_true rfl) dL_law_206 ⟨by show cells + 5 ≤ room_1.cells; omega, by show slots + 28 ≤ room_1.slots; omega⟩ (fun _ _ _ _ _ _ hpx _ _ _ _ => hpx.elim) (fun r3 w1 H locs q2 hP => ?_)
  have hMF1 := opm_link (xs (i + 1)) (xs (i + 2)) (xs (i + 3)) (xs (i + 4)) hMF q2
  obtain ⟨q26, q27, q28, q29, q30, q31, q32, q33, q34, q35, q36, q37, q38, q39, q40, q41, q42, q43, q44, q45, q46⟩ := hMF1
  refine lv_istore (lv' := [(5, .int r3), (0, .ref b), (1, .ref (B + 0)), (2, .ref (B + 26)), (3, .ref (B + 47)), (4, .int (nI i))]) hx hb dL_law_209 hl (by decide) rfl (fun ls hl => ?_)
  refine lv_aload_n hx hb dL_law_211 rfl (lv_at hl 3 rfl) ?_
  refine lv_aload_n hx hb dL_law_212 rfl (lv_at hl 1 rfl) ?_
  refine lv_iload hx hb dL_law_213 (lv_at hl 5 rfl) ?_
  refine lv_iconst (v := nI 1) hx hb dL_law_215 (by decide) ?_
  refine lv_iadd hx hb dL_law_216 ?_
  refine kl_top (z := nI (i + 1)) (by first | exact nI_add _ _ | (rw [nI_add]; first | rfl | (congr 1; omega))) ?_
  refine kl_sld hx hb hX hbl hbB hP (by omega) hL dL_law_217 ?_
  refine lv_aload_n hx hb dL_law_218 rfl (lv_at hl 1 rfl) ?_
  refine lv_iload hx hb dL_law_219 (lv_at hl 5 rfl) ?_
  refine lv_iconst (v := nI 2) hx hb dL_law_221 (by decide) ?_
  refine lv_iadd hx hb dL_law_222 ?_
  refine kl_top (z := nI (i + 2)) (by first | exact nI_add _ _ | (rw [nI_add]; first | rfl | (congr 1; omega))) ?_
  refine kl_sld hx hb hX hbl hbB hP (by omega) hL dL_law_223 ?_
  refine lv_aload_n hx hb dL_law_224 rfl (lv_at hl 1 rfl) ?_
  refine lv_iload hx hb dL_law_225 (lv_at hl 5 rfl) ?_
  refine lv_iconst (v := nI 3) hx hb dL_law_227 (by decide) ?_
  refine lv_iadd hx hb dL_law_228 ?_
  refine kl_top (z := nI (i + 3)) (by first | exact nI_add _ _ | (rw [nI_add]; first | rfl | (congr 1; omega))) ?_
  refine kl_sld hx hb hX hbl hbB hP (by omega) hL dL_law_229 ?_
  refine lv_aload_n hx hb dL_law_230 rfl (lv_at hl 1 rfl) ?_
  refine lv_iload hx hb dL_law_231 (lv_at hl 5 rfl) ?_
  refine lv_iconst (v := nI 4) hx hb dL_law_233 (by decide) ?_
  refine lv_iadd hx hb dL_law_234 ?_
  refine kl_top (z := nI (i + 4)) (by first | exact nI_add _ _ | (rw [nI_add]; first | rfl | (congr 1; omega))) ?_
  refine kl_sld hx hb hX hbl hbB hP (by omega) hL dL_law_235 ?_
  refine kl_cVi (C := RX5) (i := 26) (As := [.int (xs (i + 1)), .int (xs (i + 2)), .int (xs (i + 3)), .int (xs (i + 4))]) (rest := []) ⟨hx, hb, hml, hown, hts⟩ (c_X5_link l G B _ (xs (i + 1)) (xs (i + 2)) (xs (i + 3)) (xs (i + 4)) q26 q27 q28 q29 q33 q34 q35 q36 m1 m2 hn24 hcn4) (cwV 4 hts gL_law_X5_link rfl rfl rfl (by decide +kernel) ⟨Nat.le_of_ble_eq_true rfl, Nat.le_of_ble_eq_true rfl⟩) hK hP q26 rfl rfl hl.1 rfl (Nat.le_of_ble_eq_true rfl) dL_law_236 ⟨by show cells + 5 + 0 ≤ room_1.cells; omega, by show slots + 28 + 0 ≤ room_1.slots; omega⟩ (fun r6 w4 H locs q5 hP => ?_)
  obtain ⟨ol3, hI2, hout⟩ := op_link (xs (i + 1)) (xs (i + 2)) (xs (i + 3)) (xs (i + 4)) hJ hMF q2 q5
  have hI3 := hI2
  obtain ⟨nT3, nL3, nS3, nC3, nW3, nM3, n3, rs3, cn3, wt3, T3, C3, mT3, mC3, lf3, sf3, cf3, la3, lch3, lco3, lpa3, lwy3, sa3, stb3, sco3, ca3, cwa3, cpa3, ctb3, cln3, cwd3, ccol3, O3, D3, kR3, kO3, kD3, cw3, hJ3⟩ := hI3
  obtain ⟨-, -, ⟨on3, hi3, oO3, oD3, gn3, pl3, hMF3⟩, f473, -⟩ := hJ3
  have f263 := hMF3.1
  refine lv_istore (lv' := [(6, .int r6), (5, .int r3), (0, .ref b), (1, .ref (B + 0)), (2, .ref (B + 26)), (3, .ref (B + 47)), (4, .int (nI i))]) hx hb dL_law_239 hl (by decide) rfl (fun ls hl => ?_)
  refine lv_aload_n hx hb dL_law_241 rfl (lv_at hl 4 rfl) ?_
  refine kl_cVi (C := RX5) (i := 26) (As := []) (rest := []) ⟨hx, hb, hml, hown, hts⟩ (c_X5_thrown l G B _ f263) (cwV 0 hts gL_law_X5_thrown rfl rfl rfl (by decide +kernel) ⟨Nat.le_of_ble_eq_true rfl, Nat.le_of_ble_eq_true rfl⟩) hK hP f263 rfl rfl hl.1 rfl (Nat.le_of_ble_eq_true rfl) dL_law_242 ⟨by show cells + 5 + 0 + 0 ≤ room_1.cells; omega, by show slots + 28 + 0 + 0 ≤ room_1.slots; omega⟩ (fun r9 w7 H locs q8 hP => ?_)
  obtain ⟨hw9, hr9⟩ := q8
  subst hw9
  refine kl_top (z := r3) hr9 ?_
  refine lv_iload hx hb dL_law_245 (lv_at hl 1 rfl) ?_
  refine lv_icmp_eq (tgt := 252) hx hb dL_law_247 (by decide) (fun c247 => ?_) (fun c247 => absurd rfl c247)
  refine lv_iload hx hb dL_law_252 (lv_at hl 1 rfl) ?_
  refine lv_if_ne (tgt := 269) hx hb dL_law_254 (by decide) (fun c254 => ?_) (fun c254 => ?_)
  · refine lv_goto (tgt := 1236) hx hb dL_law_269 (by decide) ?_
    refine W.widen (k := cells + 50) (n := slots + 500) (by omega) (by omega) ?_
    exact kk _ _ _ _ _ _ hI2 hP (lv_sub hl [2, 3, 4, 5, 6] rfl)
  · refine lv_aload_n hx hb dL_law_257 rfl (lv_at hl 5 rfl) ?_
    refine lv_iconst (v := nI 0) hx hb dL_law_258 (by decide) ?_
    refine kl_lald hx hb hK hP f473 (by omega) (by omega) dL_law_259 ?_
    refine lv_iload hx hb dL_law_260 (lv_at hl 0 rfl) ?_
    refine lv_i2l hx hb dL_law_262 rfl ?_
    refine W.lcmp hx hb dL_law_263 ?_
    refine lv_if_eq (tgt := 269) hx hb dL_law_264 (by decide) (fun c264 => ?_) (fun c264 => absurd (by rw [hout c254]; simp [lg_cmp]) c264)
    refine lv_goto (tgt := 1236) hx hb dL_law_269 (by decide) ?_
    refine W.widen (k := cells + 50) (n := slots + 500) (by omega) (by omega) ?_
    exact kk _ _ _ _ _ _ hI2 hP (lv_sub hl [2, 3, 4, 5, 6] rfl)

set_option maxHeartbeats 4000000 in
set_option maxRecDepth 100000 in
theorem law_single {p : Program} {e : Env} {s : State} {m : MethodId} {below : List Frame} {meth : Method} {c : Code} (l : Launch) (hst : l.stackTraces = false) {b L : Nat} {xs : Nat → Int32} (G : kl_G) {B : Nat} (hx : p.tables.exec = Jvm.exec) (hb : c.code = cL_law) (hml : c.maxLocals = 7) (hown : s.vm.findClass RL = some m.cls) (hts : ∀ w ∈ wsL_law, w.before #[Value.ref b] s = true) (hX : va_X b L xs s s.heap) (hbl : b < s.heap.size) (hbB : b < B) (hK : kl_K G s) (hZ : kl_Z B s s.heap) {Q : State → Prop} {cells slots : Nat} (hcs : cells + 100 ≤ room_1.cells ∧ slots + 3000 ≤ room_1.slots) {w : kl_M} {H : Heap} {locs : List Loc} {ls : Array Slot} {i : Nat} (hi : i + 6 ≤ L) (hL : L ≤ 384) {ec : Int32} {ol : Nat → Int64} (hI : mr_I G B w ec ol) (hP : kl_S G B w s.heap H locs) (hl : lv_has ls 7 [(0, .ref b), (1, .ref (B + 0)), (2, .ref (B + 26)), (3, .ref (B + 47)), (4, .int (nI i))])
    (kk : ∀ (w2 : kl_M) (H2 : Heap) (locs2 : List Loc) (ls2 : Array Slot) (ec2 : Int32) (ol2 : Nat → Int64), mr_I G B w2 ec2 ol2 → kl_S G B w2 s.heap H2 locs2 → lv_has ls2 7 [(0, .ref b), (1, .ref (B + 0)), (2, .ref (B + 26)), (3, .ref (B + 47)), (4, .int (nI i))] → W p l e room_1 s m #[Value.ref b] below meth c H2 locs2 (cells + 50) (slots + 500) Q (F0 m 1236 ls2 [])) :
    W p l e room_1 s m #[Value.ref b] below meth c H locs cells slots Q (F0 m 272 ls []) := by
  obtain ⟨nT, nL, nS, nC, nW, nM, n, rs, cn, wt, T, C, mT, mC, lf, sf, cf, la, lch, lco, lpa, lwy, sa, stb, sco, ca, cwa, cpa, ctb, cln, cwd, ccol, O, D, kR, kO, kD, cw, hJ⟩ := hI
  have hJ2 := hJ
  obtain ⟨⟨dT, dC, gg, k0, k1, k2, k3, k4, k5, k6, k7, k8, k9, k10, k11, k12, k13, k14, k15, k16, k17, k18, k19, k20, k21, k22, k23, k24, k25⟩, hru, ⟨on, hi9, oO, oD, gn, pl, hMF⟩, k47, ⟨⟨m1, m2, m3, m4, m5, m6⟩, hcn2, hwt⟩, hRC, hRW, hW, hM⟩ := hJ2
  have hcn4 : ∀ j, j < nT → cn j ≤ 4 := fun j hj => (hcn2 j hj).2
  have hu := hJ.uniq
  have hpar := hRC.par
  have hn24 : n ≤ 24 := hRW.2.2.2.2
  have hrp := hRC.2.1
  have hrl3 : ∀ j, j < nL → lch j ≠ -1 ∧ lpa j ≠ -1 ∧ lco j < 4 := fun j hj => ⟨(hrp.1 j hj).1, (hrp.1 j hj).2.1, (hrp.1 j hj).2.2.1.2⟩
  have hkR : ∀ j, j < nM → kR j ≤ 24 := fun j hj => (hM j hj).2.2.2.2
  refine lv_aload_n hx hb dL_law_272 rfl (lv_at hl 1 rfl) ?_
  refine lv_aload_n hx hb dL_law_273 rfl (lv_at hl 0 rfl) ?_
  refine lv_iload hx hb dL_law_274 (lv_at hl 4 rfl) ?_
  refine lv_iconst (v := nI 1) hx hb dL_law_276 (by decide) ?_
  refine lv_iadd hx hb dL_law_277 ?_
  refine kl_top (z := nI (i + 1)) (by first | exact nI_add _ _ | (rw [nI_add]; first | rfl | (congr 1; omega))) ?_
  refine kl_sld hx hb hX hbl hbB hP (by omega) hL dL_law_278 ?_
  refine lv_aload_n hx hb dL_law_279 rfl (lv_at hl 0 rfl) ?_
  refine lv_iload hx hb dL_law_280 (lv_at hl 4 rfl) ?_
  refine lv_iconst (v := nI 2) hx hb dL_law_282 (by decide) ?_
  refine lv_iadd hx hb dL_law_283 ?_
  refine kl_top (z := nI (i + 2)) (by first | exact nI_add _ _ | (rw [nI_add]; first | rfl | (congr 1; omega))) ?_
  refine kl_sld hx hb hX hbl hbB hP (by omega) hL dL_law_284 ?_
  refine lv_aload_n hx hb dL_law_285 rfl (lv_at hl 3 rfl) ?_
  refine klx_cSXi (As := [.ref (B + 0), .int (xs (i + 1)), .int (xs (i + 2)), .ref (B + 47)]) (rest := []) ⟨hx, hb, hml, hown, hts⟩ (c_L_single l hst G B _ (xs (i + 1)) (xs (i + 2)) k0 k1 k3 k6 k7 k8 k47 m1 m3 hcn4) (vx_cwSW 4 hts gL_law_L_single rfl rfl rfl (by decide +kernel) ⟨Nat.le_of_ble_eq_true rfl, Nat.le_of_ble_eq_true rfl⟩) hK hZ hP rfl hl.1 rfl (Nat.le_of_ble_eq_true rfl) dL_law_286 ⟨by show cells + 4 ≤ room_1.cells; omega, by show slots + 20 ≤ room_1.slots; omega⟩ (fun _ _ _ _ _ _ hpx _ _ _ _ => hpx.elim) (fun r3 w1 H locs q2 hP => ?_)
  have hMF1 := opm_single (xs (i + 1)) (xs (i + 2)) hMF q2
  obtain ⟨q26, q27, q28, q29, q30, q31, q32, q33, q34, q35, q36, q37, q38, q39, q40, q41, q42, q43, q44, q45, q46⟩ := hMF1
  refine lv_istore (lv' := [(5, .int r3), (0, .ref b), (1, .ref (B + 0)), (2, .ref (B + 26)), (3, .ref (B + 47)), (4, .int (nI i))]) hx hb dL_law_289 hl (by decide) rfl (fun ls hl => ?_)
  refine lv_aload_n hx hb dL_law_291 rfl (lv_at hl 3 rfl) ?_
  refine lv_aload_n hx hb dL_law_292 rfl (lv_at hl 1 rfl) ?_
  refine lv_iload hx hb dL_law_293 (lv_at hl 5 rfl) ?_
  refine lv_iconst (v := nI 1) hx hb dL_law_295 (by decide) ?_
  refine lv_iadd hx hb dL_law_296 ?_
  refine kl_top (z := nI (i + 1)) (by first | exact nI_add _ _ | (rw [nI_add]; first | rfl | (congr 1; omega))) ?_
  refine kl_sld hx hb hX hbl hbB hP (by omega) hL dL_law_297 ?_
  refine lv_aload_n hx hb dL_law_298 rfl (lv_at hl 1 rfl) ?_
  refine lv_iload hx hb dL_law_299 (lv_at hl 5 rfl) ?_
  refine lv_iconst (v := nI 2) hx hb dL_law_301 (by decide) ?_
  refine lv_iadd hx hb dL_law_302 ?_
  refine kl_top (z := nI (i + 2)) (by first | exact nI_add _ _ | (rw [nI_add]; first | rfl | (congr 1; omega))) ?_
  refine kl_sld hx hb hX hbl hbB hP (by omega) hL dL_law_303 ?_
  refine kl_cVi (C := RX5) (i := 26) (As := [.int (xs (i + 1)), .int (xs (i + 2))]) (rest := []) ⟨hx, hb, hml, hown, hts⟩ (c_X5_single l G B _ (xs (i + 1)) (xs (i + 2)) q26 q27 q28 q29 q37 q38 m1 m3 hn24 hcn4) (cwV 2 hts gL_law_X5_single rfl rfl rfl (by decide +kernel) ⟨Nat.le_of_ble_eq_true rfl, Nat.le_of_ble_eq_true rfl⟩) hK hP q26 rfl rfl hl.1 rfl (Nat.le_of_ble_eq_true rfl) dL_law_304 ⟨by show cells + 4 + 0 ≤ room_1.cells; omega, by show slots + 20 + 0 ≤ room_1.slots; omega⟩ (fun r6 w4 H locs q5 hP => ?_)
  obtain ⟨ol3, hI2, hout⟩ := op_single (xs (i + 1)) (xs (i + 2)) hJ hMF q2 q5
  have hI3 := hI2
  obtain ⟨nT3, nL3, nS3, nC3, nW3, nM3, n3, rs3, cn3, wt3, T3, C3, mT3, mC3, lf3, sf3, cf3, la3, lch3, lco3, lpa3, lwy3, sa3, stb3, sco3, ca3, cwa3, cpa3, ctb3, cln3, cwd3, ccol3, O3, D3, kR3, kO3, kD3, cw3, hJ3⟩ := hI3
  obtain ⟨-, -, ⟨on3, hi3, oO3, oD3, gn3, pl3, hMF3⟩, f473, -⟩ := hJ3
  have f263 := hMF3.1
  refine lv_istore (lv' := [(6, .int r6), (5, .int r3), (0, .ref b), (1, .ref (B + 0)), (2, .ref (B + 26)), (3, .ref (B + 47)), (4, .int (nI i))]) hx hb dL_law_307 hl (by decide) rfl (fun ls hl => ?_)
  refine lv_aload_n hx hb dL_law_309 rfl (lv_at hl 4 rfl) ?_
  refine kl_cVi (C := RX5) (i := 26) (As := []) (rest := []) ⟨hx, hb, hml, hown, hts⟩ (c_X5_thrown l G B _ f263) (cwV 0 hts gL_law_X5_thrown rfl rfl rfl (by decide +kernel) ⟨Nat.le_of_ble_eq_true rfl, Nat.le_of_ble_eq_true rfl⟩) hK hP f263 rfl rfl hl.1 rfl (Nat.le_of_ble_eq_true rfl) dL_law_310 ⟨by show cells + 4 + 0 + 0 ≤ room_1.cells; omega, by show slots + 20 + 0 + 0 ≤ room_1.slots; omega⟩ (fun r9 w7 H locs q8 hP => ?_)
  obtain ⟨hw9, hr9⟩ := q8
  subst hw9
  refine kl_top (z := r3) hr9 ?_
  refine lv_iload hx hb dL_law_313 (lv_at hl 1 rfl) ?_
  refine lv_icmp_eq (tgt := 320) hx hb dL_law_315 (by decide) (fun c315 => ?_) (fun c315 => absurd rfl c315)
  refine lv_iload hx hb dL_law_320 (lv_at hl 1 rfl) ?_
  refine lv_if_ne (tgt := 337) hx hb dL_law_322 (by decide) (fun c322 => ?_) (fun c322 => ?_)
  · refine lv_goto (tgt := 1236) hx hb dL_law_337 (by decide) ?_
    refine W.widen (k := cells + 50) (n := slots + 500) (by omega) (by omega) ?_
    exact kk _ _ _ _ _ _ hI2 hP (lv_sub hl [2, 3, 4, 5, 6] rfl)
  · refine lv_aload_n hx hb dL_law_325 rfl (lv_at hl 5 rfl) ?_
    refine lv_iconst (v := nI 0) hx hb dL_law_326 (by decide) ?_
    refine kl_lald hx hb hK hP f473 (by omega) (by omega) dL_law_327 ?_
    refine lv_iload hx hb dL_law_328 (lv_at hl 0 rfl) ?_
    refine lv_i2l hx hb dL_law_330 rfl ?_
    refine W.lcmp hx hb dL_law_331 ?_
    refine lv_if_eq (tgt := 337) hx hb dL_law_332 (by decide) (fun c332 => ?_) (fun c332 => absurd (by rw [hout c322]; simp [lg_cmp]) c332)
    refine lv_goto (tgt := 1236) hx hb dL_law_337 (by decide) ?_
    refine W.widen (k := cells + 50) (n := slots + 500) (by omega) (by omega) ?_
    exact kk _ _ _ _ _ _ hI2 hP (lv_sub hl [2, 3, 4, 5, 6] rfl)

set_option maxHeartbeats 4000000 in
set_option maxRecDepth 100000 in
theorem law_word {p : Program} {e : Env} {s : State} {m : MethodId} {below : List Frame} {meth : Method} {c : Code} (l : Launch) (hst : l.stackTraces = false) {b L : Nat} {xs : Nat → Int32} (G : kl_G) {B : Nat} (hx : p.tables.exec = Jvm.exec) (hb : c.code = cL_law) (hml : c.maxLocals = 7) (hown : s.vm.findClass RL = some m.cls) (hts : ∀ w ∈ wsL_law, w.before #[Value.ref b] s = true) (hX : va_X b L xs s s.heap) (hbl : b < s.heap.size) (hbB : b < B) (hK : kl_K G s) (hZ : kl_Z B s s.heap) {Q : State → Prop} {cells slots : Nat} (hcs : cells + 100 ≤ room_1.cells ∧ slots + 3000 ≤ room_1.slots) {w : kl_M} {H : Heap} {locs : List Loc} {ls : Array Slot} {i : Nat} (hi : i + 6 ≤ L) (hL : L ≤ 384) {ec : Int32} {ol : Nat → Int64} (hI : mr_I G B w ec ol) (hP : kl_S G B w s.heap H locs) (hl : lv_has ls 7 [(0, .ref b), (1, .ref (B + 0)), (2, .ref (B + 26)), (3, .ref (B + 47)), (4, .int (nI i))])
    (kk : ∀ (w2 : kl_M) (H2 : Heap) (locs2 : List Loc) (ls2 : Array Slot) (ec2 : Int32) (ol2 : Nat → Int64), mr_I G B w2 ec2 ol2 → kl_S G B w2 s.heap H2 locs2 → lv_has ls2 7 [(0, .ref b), (1, .ref (B + 0)), (2, .ref (B + 26)), (3, .ref (B + 47)), (4, .int (nI i))] → W p l e room_1 s m #[Value.ref b] below meth c H2 locs2 (cells + 50) (slots + 500) Q (F0 m 1236 ls2 [])) :
    W p l e room_1 s m #[Value.ref b] below meth c H locs cells slots Q (F0 m 340 ls []) := by
  obtain ⟨nT, nL, nS, nC, nW, nM, n, rs, cn, wt, T, C, mT, mC, lf, sf, cf, la, lch, lco, lpa, lwy, sa, stb, sco, ca, cwa, cpa, ctb, cln, cwd, ccol, O, D, kR, kO, kD, cw, hJ⟩ := hI
  have hJ2 := hJ
  obtain ⟨⟨dT, dC, gg, k0, k1, k2, k3, k4, k5, k6, k7, k8, k9, k10, k11, k12, k13, k14, k15, k16, k17, k18, k19, k20, k21, k22, k23, k24, k25⟩, hru, ⟨on, hi9, oO, oD, gn, pl, hMF⟩, k47, ⟨⟨m1, m2, m3, m4, m5, m6⟩, hcn2, hwt⟩, hRC, hRW, hW, hM⟩ := hJ2
  have hcn4 : ∀ j, j < nT → cn j ≤ 4 := fun j hj => (hcn2 j hj).2
  have hu := hJ.uniq
  have hpar := hRC.par
  have hn24 : n ≤ 24 := hRW.2.2.2.2
  have hrp := hRC.2.1
  have hrl3 : ∀ j, j < nL → lch j ≠ -1 ∧ lpa j ≠ -1 ∧ lco j < 4 := fun j hj => ⟨(hrp.1 j hj).1, (hrp.1 j hj).2.1, (hrp.1 j hj).2.2.1.2⟩
  have hkR : ∀ j, j < nM → kR j ≤ 24 := fun j hj => (hM j hj).2.2.2.2
  refine lv_aload_n hx hb dL_law_340 rfl (lv_at hl 1 rfl) ?_
  refine lv_aload_n hx hb dL_law_341 rfl (lv_at hl 0 rfl) ?_
  refine lv_iload hx hb dL_law_342 (lv_at hl 4 rfl) ?_
  refine lv_iconst (v := nI 1) hx hb dL_law_344 (by decide) ?_
  refine lv_iadd hx hb dL_law_345 ?_
  refine kl_top (z := nI (i + 1)) (by first | exact nI_add _ _ | (rw [nI_add]; first | rfl | (congr 1; omega))) ?_
  refine kl_sld hx hb hX hbl hbB hP (by omega) hL dL_law_346 ?_
  refine lv_aload_n hx hb dL_law_347 rfl (lv_at hl 3 rfl) ?_
  refine klx_cSXi (As := [.ref (B + 0), .int (xs (i + 1)), .ref (B + 47)]) (rest := []) ⟨hx, hb, hml, hown, hts⟩ (c_L_word l hst G B _ (xs (i + 1)) k0 k5 k47 m5) (vx_cwSW 3 hts gL_law_L_word rfl rfl rfl (by decide +kernel) ⟨Nat.le_of_ble_eq_true rfl, Nat.le_of_ble_eq_true rfl⟩) hK hZ hP rfl hl.1 rfl (Nat.le_of_ble_eq_true rfl) dL_law_348 ⟨by show cells + 2 ≤ room_1.cells; omega, by show slots + 12 ≤ room_1.slots; omega⟩ (fun _ _ _ _ _ _ hpx _ _ _ _ => hpx.elim) (fun r3 w1 H locs q2 hP => ?_)
  have hMF1 := opm_word (xs (i + 1)) hMF q2
  obtain ⟨q26, q27, q28, q29, q30, q31, q32, q33, q34, q35, q36, q37, q38, q39, q40, q41, q42, q43, q44, q45, q46⟩ := hMF1
  refine lv_istore (lv' := [(5, .int r3), (0, .ref b), (1, .ref (B + 0)), (2, .ref (B + 26)), (3, .ref (B + 47)), (4, .int (nI i))]) hx hb dL_law_351 hl (by decide) rfl (fun ls hl => ?_)
  refine lv_aload_n hx hb dL_law_353 rfl (lv_at hl 3 rfl) ?_
  refine lv_aload_n hx hb dL_law_354 rfl (lv_at hl 1 rfl) ?_
  refine lv_iload hx hb dL_law_355 (lv_at hl 5 rfl) ?_
  refine lv_iconst (v := nI 1) hx hb dL_law_357 (by decide) ?_
  refine lv_iadd hx hb dL_law_358 ?_
  refine kl_top (z := nI (i + 1)) (by first | exact nI_add _ _ | (rw [nI_add]; first | rfl | (congr 1; omega))) ?_
  refine kl_sld hx hb hX hbl hbB hP (by omega) hL dL_law_359 ?_
  refine kl_cVi (C := RX5) (i := 26) (As := [.int (xs (i + 1))]) (rest := []) ⟨hx, hb, hml, hown, hts⟩ (c_X5_word l G B _ (xs (i + 1)) q26 q42 m5) (cwV 1 hts gL_law_X5_word rfl rfl rfl (by decide +kernel) ⟨Nat.le_of_ble_eq_true rfl, Nat.le_of_ble_eq_true rfl⟩) hK hP q26 rfl rfl hl.1 rfl (Nat.le_of_ble_eq_true rfl) dL_law_360 ⟨by show cells + 2 + 0 ≤ room_1.cells; omega, by show slots + 12 + 0 ≤ room_1.slots; omega⟩ (fun r6 w4 H locs q5 hP => ?_)
  obtain ⟨ol3, hI2, hout⟩ := op_word (xs (i + 1)) hJ hMF q2 q5
  have hI3 := hI2
  obtain ⟨nT3, nL3, nS3, nC3, nW3, nM3, n3, rs3, cn3, wt3, T3, C3, mT3, mC3, lf3, sf3, cf3, la3, lch3, lco3, lpa3, lwy3, sa3, stb3, sco3, ca3, cwa3, cpa3, ctb3, cln3, cwd3, ccol3, O3, D3, kR3, kO3, kD3, cw3, hJ3⟩ := hI3
  obtain ⟨-, -, ⟨on3, hi3, oO3, oD3, gn3, pl3, hMF3⟩, f473, -⟩ := hJ3
  have f263 := hMF3.1
  refine lv_istore (lv' := [(6, .int r6), (5, .int r3), (0, .ref b), (1, .ref (B + 0)), (2, .ref (B + 26)), (3, .ref (B + 47)), (4, .int (nI i))]) hx hb dL_law_363 hl (by decide) rfl (fun ls hl => ?_)
  refine lv_aload_n hx hb dL_law_365 rfl (lv_at hl 4 rfl) ?_
  refine kl_cVi (C := RX5) (i := 26) (As := []) (rest := []) ⟨hx, hb, hml, hown, hts⟩ (c_X5_thrown l G B _ f263) (cwV 0 hts gL_law_X5_thrown rfl rfl rfl (by decide +kernel) ⟨Nat.le_of_ble_eq_true rfl, Nat.le_of_ble_eq_true rfl⟩) hK hP f263 rfl rfl hl.1 rfl (Nat.le_of_ble_eq_true rfl) dL_law_366 ⟨by show cells + 2 + 0 + 0 ≤ room_1.cells; omega, by show slots + 12 + 0 + 0 ≤ room_1.slots; omega⟩ (fun r9 w7 H locs q8 hP => ?_)
  obtain ⟨hw9, hr9⟩ := q8
  subst hw9
  refine kl_top (z := r3) hr9 ?_
  refine lv_iload hx hb dL_law_369 (lv_at hl 1 rfl) ?_
  refine lv_icmp_eq (tgt := 376) hx hb dL_law_371 (by decide) (fun c371 => ?_) (fun c371 => absurd rfl c371)
  refine lv_iload hx hb dL_law_376 (lv_at hl 1 rfl) ?_
  refine lv_if_ne (tgt := 393) hx hb dL_law_378 (by decide) (fun c378 => ?_) (fun c378 => ?_)
  · refine lv_goto (tgt := 1236) hx hb dL_law_393 (by decide) ?_
    refine W.widen (k := cells + 50) (n := slots + 500) (by omega) (by omega) ?_
    exact kk _ _ _ _ _ _ hI2 hP (lv_sub hl [2, 3, 4, 5, 6] rfl)
  · refine lv_aload_n hx hb dL_law_381 rfl (lv_at hl 5 rfl) ?_
    refine lv_iconst (v := nI 0) hx hb dL_law_382 (by decide) ?_
    refine kl_lald hx hb hK hP f473 (by omega) (by omega) dL_law_383 ?_
    refine lv_iload hx hb dL_law_384 (lv_at hl 0 rfl) ?_
    refine lv_i2l hx hb dL_law_386 rfl ?_
    refine W.lcmp hx hb dL_law_387 ?_
    refine lv_if_eq (tgt := 393) hx hb dL_law_388 (by decide) (fun c388 => ?_) (fun c388 => absurd (by rw [hout c378]; simp [lg_cmp]) c388)
    refine lv_goto (tgt := 1236) hx hb dL_law_393 (by decide) ?_
    refine W.widen (k := cells + 50) (n := slots + 500) (by omega) (by omega) ?_
    exact kk _ _ _ _ _ _ hI2 hP (lv_sub hl [2, 3, 4, 5, 6] rfl)

set_option maxHeartbeats 4000000 in
set_option maxRecDepth 100000 in
theorem law_check {p : Program} {e : Env} {s : State} {m : MethodId} {below : List Frame} {meth : Method} {c : Code} (l : Launch) (hst : l.stackTraces = false) {b L : Nat} {xs : Nat → Int32} (G : kl_G) {B : Nat} (hx : p.tables.exec = Jvm.exec) (hb : c.code = cL_law) (hml : c.maxLocals = 7) (hown : s.vm.findClass RL = some m.cls) (hts : ∀ w ∈ wsL_law, w.before #[Value.ref b] s = true) (hX : va_X b L xs s s.heap) (hbl : b < s.heap.size) (hbB : b < B) (hK : kl_K G s) (hZ : kl_Z B s s.heap) {Q : State → Prop} {cells slots : Nat} (hcs : cells + 100 ≤ room_1.cells ∧ slots + 3000 ≤ room_1.slots) {w : kl_M} {H : Heap} {locs : List Loc} {ls : Array Slot} {i : Nat} (hi : i + 6 ≤ L) (hL : L ≤ 384) {ec : Int32} {ol : Nat → Int64} (hI : mr_I G B w ec ol) (hP : kl_S G B w s.heap H locs) (hl : lv_has ls 7 [(0, .ref b), (1, .ref (B + 0)), (2, .ref (B + 26)), (3, .ref (B + 47)), (4, .int (nI i))])
    (kk : ∀ (w2 : kl_M) (H2 : Heap) (locs2 : List Loc) (ls2 : Array Slot) (ec2 : Int32) (ol2 : Nat → Int64), mr_I G B w2 ec2 ol2 → kl_S G B w2 s.heap H2 locs2 → lv_has ls2 7 [(0, .ref b), (1, .ref (B + 0)), (2, .ref (B + 26)), (3, .ref (B + 47)), (4, .int (nI i))] → W p l e room_1 s m #[Value.ref b] below meth c H2 locs2 (cells + 50) (slots + 500) Q (F0 m 1236 ls2 [])) :
    W p l e room_1 s m #[Value.ref b] below meth c H locs cells slots Q (F0 m 396 ls []) := by
  obtain ⟨nT, nL, nS, nC, nW, nM, n, rs, cn, wt, T, C, mT, mC, lf, sf, cf, la, lch, lco, lpa, lwy, sa, stb, sco, ca, cwa, cpa, ctb, cln, cwd, ccol, O, D, kR, kO, kD, cw, hJ⟩ := hI
  have hJ2 := hJ
  obtain ⟨⟨dT, dC, gg, k0, k1, k2, k3, k4, k5, k6, k7, k8, k9, k10, k11, k12, k13, k14, k15, k16, k17, k18, k19, k20, k21, k22, k23, k24, k25⟩, hru, ⟨on, hi9, oO, oD, gn, pl, hMF⟩, k47, ⟨⟨m1, m2, m3, m4, m5, m6⟩, hcn2, hwt⟩, hRC, hRW, hW, hM⟩ := hJ2
  have hcn4 : ∀ j, j < nT → cn j ≤ 4 := fun j hj => (hcn2 j hj).2
  have hu := hJ.uniq
  have hpar := hRC.par
  have hn24 : n ≤ 24 := hRW.2.2.2.2
  have hrp := hRC.2.1
  have hrl3 : ∀ j, j < nL → lch j ≠ -1 ∧ lpa j ≠ -1 ∧ lco j < 4 := fun j hj => ⟨(hrp.1 j hj).1, (hrp.1 j hj).2.1, (hrp.1 j hj).2.2.1.2⟩
  have hkR : ∀ j, j < nM → kR j ≤ 24 := fun j hj => (hM j hj).2.2.2.2
  refine lv_aload_n hx hb dL_law_396 rfl (lv_at hl 1 rfl) ?_
  refine lv_aload_n hx hb dL_law_397 rfl (lv_at hl 0 rfl) ?_
  refine lv_iload hx hb dL_law_398 (lv_at hl 4 rfl) ?_
  refine lv_iconst (v := nI 1) hx hb dL_law_400 (by decide) ?_
  refine lv_iadd hx hb dL_law_401 ?_
  refine kl_top (z := nI (i + 1)) (by first | exact nI_add _ _ | (rw [nI_add]; first | rfl | (congr 1; omega))) ?_
  refine kl_sld hx hb hX hbl hbB hP (by omega) hL dL_law_402 ?_
  refine lv_aload_n hx hb dL_law_403 rfl (lv_at hl 3 rfl) ?_
  refine klx_cSXi (As := [.ref (B + 0), .int (xs (i + 1)), .ref (B + 47)]) (rest := []) ⟨hx, hb, hml, hown, hts⟩ (c_L_check l hst G B _ (xs (i + 1)) k0 k1 k4 k5 k6 k7 k8 k47 m1 m5 m4 hcn4 hwt) (vx_cwSW 3 hts gL_law_L_check rfl rfl rfl (by decide +kernel) ⟨Nat.le_of_ble_eq_true rfl, Nat.le_of_ble_eq_true rfl⟩) hK hZ hP rfl hl.1 rfl (Nat.le_of_ble_eq_true rfl) dL_law_404 ⟨by show cells + 7 ≤ room_1.cells; omega, by show slots + 47 ≤ room_1.slots; omega⟩ (fun _ _ _ _ _ _ hpx _ _ _ _ => hpx.elim) (fun r3 w1 H locs q2 hP => ?_)
  have hMF1 := opm_check (xs (i + 1)) hMF q2
  obtain ⟨q26, q27, q28, q29, q30, q31, q32, q33, q34, q35, q36, q37, q38, q39, q40, q41, q42, q43, q44, q45, q46⟩ := hMF1
  refine lv_istore (lv' := [(5, .int r3), (0, .ref b), (1, .ref (B + 0)), (2, .ref (B + 26)), (3, .ref (B + 47)), (4, .int (nI i))]) hx hb dL_law_407 hl (by decide) rfl (fun ls hl => ?_)
  refine lv_aload_n hx hb dL_law_409 rfl (lv_at hl 3 rfl) ?_
  refine lv_aload_n hx hb dL_law_410 rfl (lv_at hl 1 rfl) ?_
  refine lv_iload hx hb dL_law_411 (lv_at hl 5 rfl) ?_
  refine lv_iconst (v := nI 1) hx hb dL_law_413 (by decide) ?_
  refine lv_iadd hx hb dL_law_414 ?_
  refine kl_top (z := nI (i + 1)) (by first | exact nI_add _ _ | (rw [nI_add]; first | rfl | (congr 1; omega))) ?_
  refine kl_sld hx hb hX hbl hbB hP (by omega) hL dL_law_415 ?_
  refine kl_cVi (C := RX5) (i := 26) (As := [.int (xs (i + 1))]) (rest := []) ⟨hx, hb, hml, hown, hts⟩ (c_X5_check l G B _ (xs (i + 1)) q26 q27 q28 q29 q39 q40 q41 q42 q43 m1 m4 m5 hn24 hcn4 hwt) (cwV 1 hts gL_law_X5_check rfl rfl rfl (by decide +kernel) ⟨Nat.le_of_ble_eq_true rfl, Nat.le_of_ble_eq_true rfl⟩) hK hP q26 rfl rfl hl.1 rfl (Nat.le_of_ble_eq_true rfl) dL_law_416 ⟨by show cells + 7 + 0 ≤ room_1.cells; omega, by show slots + 47 + 0 ≤ room_1.slots; omega⟩ (fun r6 w4 H locs q5 hP => ?_)
  obtain ⟨ol3, hI2, hout⟩ := op_check (xs (i + 1)) hJ hMF q2 q5
  have hI3 := hI2
  obtain ⟨nT3, nL3, nS3, nC3, nW3, nM3, n3, rs3, cn3, wt3, T3, C3, mT3, mC3, lf3, sf3, cf3, la3, lch3, lco3, lpa3, lwy3, sa3, stb3, sco3, ca3, cwa3, cpa3, ctb3, cln3, cwd3, ccol3, O3, D3, kR3, kO3, kD3, cw3, hJ3⟩ := hI3
  obtain ⟨-, -, ⟨on3, hi3, oO3, oD3, gn3, pl3, hMF3⟩, f473, -⟩ := hJ3
  have f263 := hMF3.1
  refine lv_istore (lv' := [(6, .int r6), (5, .int r3), (0, .ref b), (1, .ref (B + 0)), (2, .ref (B + 26)), (3, .ref (B + 47)), (4, .int (nI i))]) hx hb dL_law_419 hl (by decide) rfl (fun ls hl => ?_)
  refine lv_aload_n hx hb dL_law_421 rfl (lv_at hl 4 rfl) ?_
  refine kl_cVi (C := RX5) (i := 26) (As := []) (rest := []) ⟨hx, hb, hml, hown, hts⟩ (c_X5_thrown l G B _ f263) (cwV 0 hts gL_law_X5_thrown rfl rfl rfl (by decide +kernel) ⟨Nat.le_of_ble_eq_true rfl, Nat.le_of_ble_eq_true rfl⟩) hK hP f263 rfl rfl hl.1 rfl (Nat.le_of_ble_eq_true rfl) dL_law_422 ⟨by show cells + 7 + 0 + 0 ≤ room_1.cells; omega, by show slots + 47 + 0 + 0 ≤ room_1.slots; omega⟩ (fun r9 w7 H locs q8 hP => ?_)
  obtain ⟨hw9, hr9⟩ := q8
  subst hw9
  refine kl_top (z := r3) hr9 ?_
  refine lv_iload hx hb dL_law_425 (lv_at hl 1 rfl) ?_
  refine lv_icmp_eq (tgt := 432) hx hb dL_law_427 (by decide) (fun c427 => ?_) (fun c427 => absurd rfl c427)
  refine lv_iload hx hb dL_law_432 (lv_at hl 1 rfl) ?_
  refine lv_if_ne (tgt := 449) hx hb dL_law_434 (by decide) (fun c434 => ?_) (fun c434 => ?_)
  · refine lv_goto (tgt := 1236) hx hb dL_law_449 (by decide) ?_
    refine W.widen (k := cells + 50) (n := slots + 500) (by omega) (by omega) ?_
    exact kk _ _ _ _ _ _ hI2 hP (lv_sub hl [2, 3, 4, 5, 6] rfl)
  · refine lv_aload_n hx hb dL_law_437 rfl (lv_at hl 5 rfl) ?_
    refine lv_iconst (v := nI 0) hx hb dL_law_438 (by decide) ?_
    refine kl_lald hx hb hK hP f473 (by omega) (by omega) dL_law_439 ?_
    refine lv_iload hx hb dL_law_440 (lv_at hl 0 rfl) ?_
    refine lv_i2l hx hb dL_law_442 rfl ?_
    refine W.lcmp hx hb dL_law_443 ?_
    refine lv_if_eq (tgt := 449) hx hb dL_law_444 (by decide) (fun c444 => ?_) (fun c444 => absurd (by rw [hout c434]; simp [lg_cmp]) c444)
    refine lv_goto (tgt := 1236) hx hb dL_law_449 (by decide) ?_
    refine W.widen (k := cells + 50) (n := slots + 500) (by omega) (by omega) ?_
    exact kk _ _ _ _ _ _ hI2 hP (lv_sub hl [2, 3, 4, 5, 6] rfl)

set_option maxHeartbeats 4000000 in
set_option maxRecDepth 100000 in
theorem law_insert {p : Program} {e : Env} {s : State} {m : MethodId} {below : List Frame} {meth : Method} {c : Code} (l : Launch) (hst : l.stackTraces = false) {b L : Nat} {xs : Nat → Int32} (G : kl_G) {B : Nat} (hx : p.tables.exec = Jvm.exec) (hb : c.code = cL_law) (hml : c.maxLocals = 7) (hown : s.vm.findClass RL = some m.cls) (hts : ∀ w ∈ wsL_law, w.before #[Value.ref b] s = true) (hX : va_X b L xs s s.heap) (hbl : b < s.heap.size) (hbB : b < B) (hK : kl_K G s) (hZ : kl_Z B s s.heap) {Q : State → Prop} {cells slots : Nat} (hcs : cells + 100 ≤ room_1.cells ∧ slots + 3000 ≤ room_1.slots) {w : kl_M} {H : Heap} {locs : List Loc} {ls : Array Slot} {i : Nat} (hi : i + 6 ≤ L) (hL : L ≤ 384) {ec : Int32} {ol : Nat → Int64} (hI : mr_I G B w ec ol) (hP : kl_S G B w s.heap H locs) (hl : lv_has ls 7 [(0, .ref b), (1, .ref (B + 0)), (2, .ref (B + 26)), (3, .ref (B + 47)), (4, .int (nI i))])
    (kk : ∀ (w2 : kl_M) (H2 : Heap) (locs2 : List Loc) (ls2 : Array Slot) (ec2 : Int32) (ol2 : Nat → Int64), mr_I G B w2 ec2 ol2 → kl_S G B w2 s.heap H2 locs2 → lv_has ls2 7 [(0, .ref b), (1, .ref (B + 0)), (2, .ref (B + 26)), (3, .ref (B + 47)), (4, .int (nI i))] → W p l e room_1 s m #[Value.ref b] below meth c H2 locs2 (cells + 50) (slots + 500) Q (F0 m 1236 ls2 [])) :
    W p l e room_1 s m #[Value.ref b] below meth c H locs cells slots Q (F0 m 452 ls []) := by
  obtain ⟨nT, nL, nS, nC, nW, nM, n, rs, cn, wt, T, C, mT, mC, lf, sf, cf, la, lch, lco, lpa, lwy, sa, stb, sco, ca, cwa, cpa, ctb, cln, cwd, ccol, O, D, kR, kO, kD, cw, hJ⟩ := hI
  have hJ2 := hJ
  obtain ⟨⟨dT, dC, gg, k0, k1, k2, k3, k4, k5, k6, k7, k8, k9, k10, k11, k12, k13, k14, k15, k16, k17, k18, k19, k20, k21, k22, k23, k24, k25⟩, hru, ⟨on, hi9, oO, oD, gn, pl, hMF⟩, k47, ⟨⟨m1, m2, m3, m4, m5, m6⟩, hcn2, hwt⟩, hRC, hRW, hW, hM⟩ := hJ2
  have hcn4 : ∀ j, j < nT → cn j ≤ 4 := fun j hj => (hcn2 j hj).2
  have hu := hJ.uniq
  have hpar := hRC.par
  have hn24 : n ≤ 24 := hRW.2.2.2.2
  have hrp := hRC.2.1
  have hrl3 : ∀ j, j < nL → lch j ≠ -1 ∧ lpa j ≠ -1 ∧ lco j < 4 := fun j hj => ⟨(hrp.1 j hj).1, (hrp.1 j hj).2.1, (hrp.1 j hj).2.2.1.2⟩
  have hkR : ∀ j, j < nM → kR j ≤ 24 := fun j hj => (hM j hj).2.2.2.2
  refine lv_aload_n hx hb dL_law_452 rfl (lv_at hl 1 rfl) ?_
  refine lv_aload_n hx hb dL_law_453 rfl (lv_at hl 0 rfl) ?_
  refine lv_iload hx hb dL_law_454 (lv_at hl 4 rfl) ?_
  refine lv_iconst (v := nI 1) hx hb dL_law_456 (by decide) ?_
  refine lv_iadd hx hb dL_law_457 ?_
  refine kl_top (z := nI (i + 1)) (by first | exact nI_add _ _ | (rw [nI_add]; first | rfl | (congr 1; omega))) ?_
  refine kl_sld hx hb hX hbl hbB hP (by omega) hL dL_law_458 ?_
  refine lv_aload_n hx hb dL_law_459 rfl (lv_at hl 0 rfl) ?_
  refine lv_iload hx hb dL_law_460 (lv_at hl 4 rfl) ?_
  refine lv_iconst (v := nI 2) hx hb dL_law_462 (by decide) ?_
  refine lv_iadd hx hb dL_law_463 ?_
  refine kl_top (z := nI (i + 2)) (by first | exact nI_add _ _ | (rw [nI_add]; first | rfl | (congr 1; omega))) ?_
  refine kl_sld hx hb hX hbl hbB hP (by omega) hL dL_law_464 ?_
  refine lv_aload_n hx hb dL_law_465 rfl (lv_at hl 0 rfl) ?_
  refine lv_iload hx hb dL_law_466 (lv_at hl 4 rfl) ?_
  refine lv_iconst (v := nI 3) hx hb dL_law_468 (by decide) ?_
  refine lv_iadd hx hb dL_law_469 ?_
  refine kl_top (z := nI (i + 3)) (by first | exact nI_add _ _ | (rw [nI_add]; first | rfl | (congr 1; omega))) ?_
  refine kl_sld hx hb hX hbl hbB hP (by omega) hL dL_law_470 ?_
  refine lv_aload_n hx hb dL_law_471 rfl (lv_at hl 0 rfl) ?_
  refine lv_iload hx hb dL_law_472 (lv_at hl 4 rfl) ?_
  refine lv_iconst (v := nI 4) hx hb dL_law_474 (by decide) ?_
  refine lv_iadd hx hb dL_law_475 ?_
  refine kl_top (z := nI (i + 4)) (by first | exact nI_add _ _ | (rw [nI_add]; first | rfl | (congr 1; omega))) ?_
  refine kl_sld hx hb hX hbl hbB hP (by omega) hL dL_law_476 ?_
  refine lv_aload_n hx hb dL_law_477 rfl (lv_at hl 0 rfl) ?_
  refine lv_iload hx hb dL_law_478 (lv_at hl 4 rfl) ?_
  refine lv_iconst (v := nI 5) hx hb dL_law_480 (by decide) ?_
  refine lv_iadd hx hb dL_law_481 ?_
  refine kl_top (z := nI (i + 5)) (by first | exact nI_add _ _ | (rw [nI_add]; first | rfl | (congr 1; omega))) ?_
  refine kl_sld hx hb hX hbl hbB hP (by omega) hL dL_law_482 ?_
  refine klx_cSXi (As := [.ref (B + 0), .int (xs (i + 1)), .int (xs (i + 2)), .int (xs (i + 3)), .int (xs (i + 4)), .int (xs (i + 5))]) (rest := []) ⟨hx, hb, hml, hown, hts⟩ (c_L_insert l hst G B _ (xs (i + 1)) (xs (i + 2)) (xs (i + 3)) (xs (i + 4)) (xs (i + 5)) k0 k2 k3 k4 k6 k7 k8 k9 k10 k11 k47 ⟨m1, m2, m3, m4, m5, m6⟩ hru) (vx_cwSW 6 hts gL_law_L_insert rfl rfl rfl (by decide +kernel) ⟨Nat.le_of_ble_eq_true rfl, Nat.le_of_ble_eq_true rfl⟩) hK hZ hP rfl hl.1 rfl (Nat.le_of_ble_eq_true rfl) dL_law_483 ⟨by show cells + 3 ≤ room_1.cells; omega, by show slots + 18 ≤ room_1.slots; omega⟩ (fun _ _ _ _ _ _ hpx _ _ _ _ => hpx.elim) (fun r3 w1 H locs q2 hP => ?_)
  have hMF1 := opm_insert (xs (i + 1)) (xs (i + 2)) (xs (i + 3)) (xs (i + 4)) (xs (i + 5)) hMF q2
  obtain ⟨q26, q27, q28, q29, q30, q31, q32, q33, q34, q35, q36, q37, q38, q39, q40, q41, q42, q43, q44, q45, q46⟩ := hMF1
  refine lv_istore (lv' := [(5, .int r3), (0, .ref b), (1, .ref (B + 0)), (2, .ref (B + 26)), (3, .ref (B + 47)), (4, .int (nI i))]) hx hb dL_law_486 hl (by decide) rfl (fun ls hl => ?_)
  refine lv_aload_n hx hb dL_law_488 rfl (lv_at hl 3 rfl) ?_
  refine lv_aload_n hx hb dL_law_489 rfl (lv_at hl 1 rfl) ?_
  refine lv_iload hx hb dL_law_490 (lv_at hl 5 rfl) ?_
  refine lv_iconst (v := nI 1) hx hb dL_law_492 (by decide) ?_
  refine lv_iadd hx hb dL_law_493 ?_
  refine kl_top (z := nI (i + 1)) (by first | exact nI_add _ _ | (rw [nI_add]; first | rfl | (congr 1; omega))) ?_
  refine kl_sld hx hb hX hbl hbB hP (by omega) hL dL_law_494 ?_
  refine lv_aload_n hx hb dL_law_495 rfl (lv_at hl 1 rfl) ?_
  refine lv_iload hx hb dL_law_496 (lv_at hl 5 rfl) ?_
  refine lv_iconst (v := nI 2) hx hb dL_law_498 (by decide) ?_
  refine lv_iadd hx hb dL_law_499 ?_
  refine kl_top (z := nI (i + 2)) (by first | exact nI_add _ _ | (rw [nI_add]; first | rfl | (congr 1; omega))) ?_
  refine kl_sld hx hb hX hbl hbB hP (by omega) hL dL_law_500 ?_
  refine lv_aload_n hx hb dL_law_501 rfl (lv_at hl 1 rfl) ?_
  refine lv_iload hx hb dL_law_502 (lv_at hl 5 rfl) ?_
  refine lv_iconst (v := nI 3) hx hb dL_law_504 (by decide) ?_
  refine lv_iadd hx hb dL_law_505 ?_
  refine kl_top (z := nI (i + 3)) (by first | exact nI_add _ _ | (rw [nI_add]; first | rfl | (congr 1; omega))) ?_
  refine kl_sld hx hb hX hbl hbB hP (by omega) hL dL_law_506 ?_
  refine lv_aload_n hx hb dL_law_507 rfl (lv_at hl 1 rfl) ?_
  refine lv_iload hx hb dL_law_508 (lv_at hl 5 rfl) ?_
  refine lv_iconst (v := nI 4) hx hb dL_law_510 (by decide) ?_
  refine lv_iadd hx hb dL_law_511 ?_
  refine kl_top (z := nI (i + 4)) (by first | exact nI_add _ _ | (rw [nI_add]; first | rfl | (congr 1; omega))) ?_
  refine kl_sld hx hb hX hbl hbB hP (by omega) hL dL_law_512 ?_
  refine lv_aload_n hx hb dL_law_513 rfl (lv_at hl 1 rfl) ?_
  refine lv_iload hx hb dL_law_514 (lv_at hl 5 rfl) ?_
  refine lv_iconst (v := nI 5) hx hb dL_law_516 (by decide) ?_
  refine lv_iadd hx hb dL_law_517 ?_
  refine kl_top (z := nI (i + 5)) (by first | exact nI_add _ _ | (rw [nI_add]; first | rfl | (congr 1; omega))) ?_
  refine kl_sld hx hb hX hbl hbB hP (by omega) hL dL_law_518 ?_
  refine kl_cVv (C := RX5) (i := 26) (As := [.int (xs (i + 1)), .int (xs (i + 2)), .int (xs (i + 3)), .int (xs (i + 4)), .int (xs (i + 5))]) (rest := []) ⟨hx, hb, hml, hown, hts⟩ (c_X5_insert l G B _ ccol (xs (i + 1)) (xs (i + 2)) (xs (i + 3)) (xs (i + 4)) (xs (i + 5)) q26 q27 q28 q29 q30 q31 q32 q33 q34 q35 q36 q37 q38 q39 q40 q41 q43 ⟨m1, m2, m3, m4, hn24⟩ hrp hcn4) (cwV 5 hts gL_law_X5_insert rfl rfl rfl (by decide +kernel) ⟨Nat.le_of_ble_eq_true rfl, Nat.le_of_ble_eq_true rfl⟩) hK hP q26 rfl rfl hl.1 rfl (Nat.le_of_ble_eq_true rfl) dL_law_519 ⟨by show cells + 3 + 0 ≤ room_1.cells; omega, by show slots + 18 + 0 ≤ room_1.slots; omega⟩ (fun w4 H locs q5 hP => ?_)
  obtain ⟨ol3, hI2⟩ := op_insert (xs (i + 1)) (xs (i + 2)) (xs (i + 3)) (xs (i + 4)) (xs (i + 5)) hJ hMF q2 q5
  have hI3 := hI2
  obtain ⟨nT3, nL3, nS3, nC3, nW3, nM3, n3, rs3, cn3, wt3, T3, C3, mT3, mC3, lf3, sf3, cf3, la3, lch3, lco3, lpa3, lwy3, sa3, stb3, sco3, ca3, cwa3, cpa3, ctb3, cln3, cwd3, ccol3, O3, D3, kR3, kO3, kD3, cw3, hJ3⟩ := hI3
  obtain ⟨-, -, ⟨on3, hi3, oO3, oD3, gn3, pl3, hMF3⟩, f473, -⟩ := hJ3
  have f263 := hMF3.1
  refine lv_aload_n hx hb dL_law_522 rfl (lv_at hl 3 rfl) ?_
  refine kl_cVi (C := RX5) (i := 26) (As := []) (rest := []) ⟨hx, hb, hml, hown, hts⟩ (c_X5_thrown l G B _ f263) (cwV 0 hts gL_law_X5_thrown rfl rfl rfl (by decide +kernel) ⟨Nat.le_of_ble_eq_true rfl, Nat.le_of_ble_eq_true rfl⟩) hK hP f263 rfl rfl hl.1 rfl (Nat.le_of_ble_eq_true rfl) dL_law_523 ⟨by show cells + 3 + 0 + 0 ≤ room_1.cells; omega, by show slots + 18 + 0 + 0 ≤ room_1.slots; omega⟩ (fun r9 w7 H locs q8 hP => ?_)
  obtain ⟨hw9, hr9⟩ := q8
  subst hw9
  refine kl_top (z := r3) hr9 ?_
  refine lv_iload hx hb dL_law_526 (lv_at hl 0 rfl) ?_
  refine lv_icmp_eq (tgt := 533) hx hb dL_law_528 (by decide) (fun c528 => ?_) (fun c528 => absurd rfl c528)
  refine lv_goto (tgt := 1236) hx hb dL_law_533 (by decide) ?_
  refine W.widen (k := cells + 50) (n := slots + 500) (by omega) (by omega) ?_
  exact kk _ _ _ _ _ _ hI2 hP (lv_sub hl [1, 2, 3, 4, 5] rfl)

set_option maxHeartbeats 4000000 in
set_option maxRecDepth 100000 in
theorem law_delete {p : Program} {e : Env} {s : State} {m : MethodId} {below : List Frame} {meth : Method} {c : Code} (l : Launch) (hst : l.stackTraces = false) {b L : Nat} {xs : Nat → Int32} (G : kl_G) {B : Nat} (hx : p.tables.exec = Jvm.exec) (hb : c.code = cL_law) (hml : c.maxLocals = 7) (hown : s.vm.findClass RL = some m.cls) (hts : ∀ w ∈ wsL_law, w.before #[Value.ref b] s = true) (hX : va_X b L xs s s.heap) (hbl : b < s.heap.size) (hbB : b < B) (hK : kl_K G s) (hZ : kl_Z B s s.heap) {Q : State → Prop} {cells slots : Nat} (hcs : cells + 100 ≤ room_1.cells ∧ slots + 3000 ≤ room_1.slots) {w : kl_M} {H : Heap} {locs : List Loc} {ls : Array Slot} {i : Nat} (hi : i + 6 ≤ L) (hL : L ≤ 384) {ec : Int32} {ol : Nat → Int64} (hI : mr_I G B w ec ol) (hP : kl_S G B w s.heap H locs) (hl : lv_has ls 7 [(0, .ref b), (1, .ref (B + 0)), (2, .ref (B + 26)), (3, .ref (B + 47)), (4, .int (nI i))])
    (kk : ∀ (w2 : kl_M) (H2 : Heap) (locs2 : List Loc) (ls2 : Array Slot) (ec2 : Int32) (ol2 : Nat → Int64), mr_I G B w2 ec2 ol2 → kl_S G B w2 s.heap H2 locs2 → lv_has ls2 7 [(0, .ref b), (1, .ref (B + 0)), (2, .ref (B + 26)), (3, .ref (B + 47)), (4, .int (nI i))] → W p l e room_1 s m #[Value.ref b] below meth c H2 locs2 (cells + 50) (slots + 500) Q (F0 m 1236 ls2 [])) :
    W p l e room_1 s m #[Value.ref b] below meth c H locs cells slots Q (F0 m 536 ls []) := by
  obtain ⟨nT, nL, nS, nC, nW, nM, n, rs, cn, wt, T, C, mT, mC, lf, sf, cf, la, lch, lco, lpa, lwy, sa, stb, sco, ca, cwa, cpa, ctb, cln, cwd, ccol, O, D, kR, kO, kD, cw, hJ⟩ := hI
  have hJ2 := hJ
  obtain ⟨⟨dT, dC, gg, k0, k1, k2, k3, k4, k5, k6, k7, k8, k9, k10, k11, k12, k13, k14, k15, k16, k17, k18, k19, k20, k21, k22, k23, k24, k25⟩, hru, ⟨on, hi9, oO, oD, gn, pl, hMF⟩, k47, ⟨⟨m1, m2, m3, m4, m5, m6⟩, hcn2, hwt⟩, hRC, hRW, hW, hM⟩ := hJ2
  have hcn4 : ∀ j, j < nT → cn j ≤ 4 := fun j hj => (hcn2 j hj).2
  have hu := hJ.uniq
  have hpar := hRC.par
  have hn24 : n ≤ 24 := hRW.2.2.2.2
  have hrp := hRC.2.1
  have hrl3 : ∀ j, j < nL → lch j ≠ -1 ∧ lpa j ≠ -1 ∧ lco j < 4 := fun j hj => ⟨(hrp.1 j hj).1, (hrp.1 j hj).2.1, (hrp.1 j hj).2.2.1.2⟩
  have hkR : ∀ j, j < nM → kR j ≤ 24 := fun j hj => (hM j hj).2.2.2.2
  refine lv_aload_n hx hb dL_law_536 rfl (lv_at hl 1 rfl) ?_
  refine lv_aload_n hx hb dL_law_537 rfl (lv_at hl 0 rfl) ?_
  refine lv_iload hx hb dL_law_538 (lv_at hl 4 rfl) ?_
  refine lv_iconst (v := nI 1) hx hb dL_law_540 (by decide) ?_
  refine lv_iadd hx hb dL_law_541 ?_
  refine kl_top (z := nI (i + 1)) (by first | exact nI_add _ _ | (rw [nI_add]; first | rfl | (congr 1; omega))) ?_
  refine kl_sld hx hb hX hbl hbB hP (by omega) hL dL_law_542 ?_
  refine lv_aload_n hx hb dL_law_543 rfl (lv_at hl 0 rfl) ?_
  refine lv_iload hx hb dL_law_544 (lv_at hl 4 rfl) ?_
  refine lv_iconst (v := nI 2) hx hb dL_law_546 (by decide) ?_
  refine lv_iadd hx hb dL_law_547 ?_
  refine kl_top (z := nI (i + 2)) (by first | exact nI_add _ _ | (rw [nI_add]; first | rfl | (congr 1; omega))) ?_
  refine kl_sld hx hb hX hbl hbB hP (by omega) hL dL_law_548 ?_
  refine lv_aload_n hx hb dL_law_549 rfl (lv_at hl 0 rfl) ?_
  refine lv_iload hx hb dL_law_550 (lv_at hl 4 rfl) ?_
  refine lv_iconst (v := nI 3) hx hb dL_law_552 (by decide) ?_
  refine lv_iadd hx hb dL_law_553 ?_
  refine kl_top (z := nI (i + 3)) (by first | exact nI_add _ _ | (rw [nI_add]; first | rfl | (congr 1; omega))) ?_
  refine kl_sld hx hb hX hbl hbB hP (by omega) hL dL_law_554 ?_
  refine lv_aload_n hx hb dL_law_555 rfl (lv_at hl 3 rfl) ?_
  refine klx_cSXi (As := [.ref (B + 0), .int (xs (i + 1)), .int (xs (i + 2)), .int (xs (i + 3)), .ref (B + 47)]) (rest := []) ⟨hx, hb, hml, hown, hts⟩ (c_L_delete l hst G B _ (xs (i + 1)) (xs (i + 2)) (xs (i + 3)) k0 k1 k2 k3 k4 k6 k7 k8 k9 k10 k11 k13 k47 ⟨m1, m2, m3, m4, m5, m6⟩ hru hcn4 hu hpar) (vx_cwSW 5 hts gL_law_L_delete rfl rfl rfl (by decide +kernel) ⟨Nat.le_of_ble_eq_true rfl, Nat.le_of_ble_eq_true rfl⟩) hK hZ hP rfl hl.1 rfl (Nat.le_of_ble_eq_true rfl) dL_law_556 ⟨by show cells + 2 ≤ room_1.cells; omega, by show slots + 12 ≤ room_1.slots; omega⟩ (fun _ _ _ _ _ _ hpx _ _ _ _ => hpx.elim) (fun r3 w1 H locs q2 hP => ?_)
  have hMF1 := opm_delete (xs (i + 1)) (xs (i + 2)) (xs (i + 3)) hMF q2
  obtain ⟨q26, q27, q28, q29, q30, q31, q32, q33, q34, q35, q36, q37, q38, q39, q40, q41, q42, q43, q44, q45, q46⟩ := hMF1
  refine lv_istore (lv' := [(5, .int r3), (0, .ref b), (1, .ref (B + 0)), (2, .ref (B + 26)), (3, .ref (B + 47)), (4, .int (nI i))]) hx hb dL_law_559 hl (by decide) rfl (fun ls hl => ?_)
  refine lv_aload_n hx hb dL_law_561 rfl (lv_at hl 3 rfl) ?_
  refine lv_aload_n hx hb dL_law_562 rfl (lv_at hl 1 rfl) ?_
  refine lv_iload hx hb dL_law_563 (lv_at hl 5 rfl) ?_
  refine lv_iconst (v := nI 1) hx hb dL_law_565 (by decide) ?_
  refine lv_iadd hx hb dL_law_566 ?_
  refine kl_top (z := nI (i + 1)) (by first | exact nI_add _ _ | (rw [nI_add]; first | rfl | (congr 1; omega))) ?_
  refine kl_sld hx hb hX hbl hbB hP (by omega) hL dL_law_567 ?_
  refine lv_aload_n hx hb dL_law_568 rfl (lv_at hl 1 rfl) ?_
  refine lv_iload hx hb dL_law_569 (lv_at hl 5 rfl) ?_
  refine lv_iconst (v := nI 2) hx hb dL_law_571 (by decide) ?_
  refine lv_iadd hx hb dL_law_572 ?_
  refine kl_top (z := nI (i + 2)) (by first | exact nI_add _ _ | (rw [nI_add]; first | rfl | (congr 1; omega))) ?_
  refine kl_sld hx hb hX hbl hbB hP (by omega) hL dL_law_573 ?_
  refine lv_aload_n hx hb dL_law_574 rfl (lv_at hl 1 rfl) ?_
  refine lv_iload hx hb dL_law_575 (lv_at hl 5 rfl) ?_
  refine lv_iconst (v := nI 3) hx hb dL_law_577 (by decide) ?_
  refine lv_iadd hx hb dL_law_578 ?_
  refine kl_top (z := nI (i + 3)) (by first | exact nI_add _ _ | (rw [nI_add]; first | rfl | (congr 1; omega))) ?_
  refine kl_sld hx hb hX hbl hbB hP (by omega) hL dL_law_579 ?_
  refine kl_cVi (C := RX5) (i := 26) (As := [.int (xs (i + 1)), .int (xs (i + 2)), .int (xs (i + 3))]) (rest := []) ⟨hx, hb, hml, hown, hts⟩ (c_X5_delete l G B _ ccol (xs (i + 1)) (xs (i + 2)) (xs (i + 3)) q26 q27 q28 q29 q30 q31 q32 q33 q34 q35 q36 q37 q38 q39 q40 q41 q43 ⟨m1, m2, m3, m4, hn24⟩ hrp hcn4) (cwV 3 hts gL_law_X5_delete rfl rfl rfl (by decide +kernel) ⟨Nat.le_of_ble_eq_true rfl, Nat.le_of_ble_eq_true rfl⟩) hK hP q26 rfl rfl hl.1 rfl (Nat.le_of_ble_eq_true rfl) dL_law_580 ⟨by show cells + 2 + 0 ≤ room_1.cells; omega, by show slots + 12 + 0 ≤ room_1.slots; omega⟩ (fun r6 w4 H locs q5 hP => ?_)
  obtain ⟨ol3, hI2, hout⟩ := op_delete (xs (i + 1)) (xs (i + 2)) (xs (i + 3)) hJ hMF q2 q5
  have hI3 := hI2
  obtain ⟨nT3, nL3, nS3, nC3, nW3, nM3, n3, rs3, cn3, wt3, T3, C3, mT3, mC3, lf3, sf3, cf3, la3, lch3, lco3, lpa3, lwy3, sa3, stb3, sco3, ca3, cwa3, cpa3, ctb3, cln3, cwd3, ccol3, O3, D3, kR3, kO3, kD3, cw3, hJ3⟩ := hI3
  obtain ⟨-, -, ⟨on3, hi3, oO3, oD3, gn3, pl3, hMF3⟩, f473, -⟩ := hJ3
  have f263 := hMF3.1
  refine lv_istore (lv' := [(6, .int r6), (5, .int r3), (0, .ref b), (1, .ref (B + 0)), (2, .ref (B + 26)), (3, .ref (B + 47)), (4, .int (nI i))]) hx hb dL_law_583 hl (by decide) rfl (fun ls hl => ?_)
  refine lv_aload_n hx hb dL_law_585 rfl (lv_at hl 4 rfl) ?_
  refine kl_cVi (C := RX5) (i := 26) (As := []) (rest := []) ⟨hx, hb, hml, hown, hts⟩ (c_X5_thrown l G B _ f263) (cwV 0 hts gL_law_X5_thrown rfl rfl rfl (by decide +kernel) ⟨Nat.le_of_ble_eq_true rfl, Nat.le_of_ble_eq_true rfl⟩) hK hP f263 rfl rfl hl.1 rfl (Nat.le_of_ble_eq_true rfl) dL_law_586 ⟨by show cells + 2 + 0 + 0 ≤ room_1.cells; omega, by show slots + 12 + 0 + 0 ≤ room_1.slots; omega⟩ (fun r9 w7 H locs q8 hP => ?_)
  obtain ⟨hw9, hr9⟩ := q8
  subst hw9
  refine kl_top (z := r3) hr9 ?_
  refine lv_iload hx hb dL_law_589 (lv_at hl 1 rfl) ?_
  refine lv_icmp_eq (tgt := 596) hx hb dL_law_591 (by decide) (fun c591 => ?_) (fun c591 => absurd rfl c591)
  refine lv_iload hx hb dL_law_596 (lv_at hl 1 rfl) ?_
  refine lv_if_ne (tgt := 613) hx hb dL_law_598 (by decide) (fun c598 => ?_) (fun c598 => ?_)
  · refine lv_goto (tgt := 1236) hx hb dL_law_613 (by decide) ?_
    refine W.widen (k := cells + 50) (n := slots + 500) (by omega) (by omega) ?_
    exact kk _ _ _ _ _ _ hI2 hP (lv_sub hl [2, 3, 4, 5, 6] rfl)
  · refine lv_aload_n hx hb dL_law_601 rfl (lv_at hl 5 rfl) ?_
    refine lv_iconst (v := nI 0) hx hb dL_law_602 (by decide) ?_
    refine kl_lald hx hb hK hP f473 (by omega) (by omega) dL_law_603 ?_
    refine lv_iload hx hb dL_law_604 (lv_at hl 0 rfl) ?_
    refine lv_i2l hx hb dL_law_606 rfl ?_
    refine W.lcmp hx hb dL_law_607 ?_
    refine lv_if_eq (tgt := 613) hx hb dL_law_608 (by decide) (fun c608 => ?_) (fun c608 => absurd (by rw [hout c598]; simp [lg_cmp]) c608)
    refine lv_goto (tgt := 1236) hx hb dL_law_613 (by decide) ?_
    refine W.widen (k := cells + 50) (n := slots + 500) (by omega) (by omega) ?_
    exact kk _ _ _ _ _ _ hI2 hP (lv_sub hl [2, 3, 4, 5, 6] rfl)

set_option maxHeartbeats 4000000 in
set_option maxRecDepth 100000 in
theorem law_update {p : Program} {e : Env} {s : State} {m : MethodId} {below : List Frame} {meth : Method} {c : Code} (l : Launch) (hst : l.stackTraces = false) {b L : Nat} {xs : Nat → Int32} (G : kl_G) {B : Nat} (hx : p.tables.exec = Jvm.exec) (hb : c.code = cL_law) (hml : c.maxLocals = 7) (hown : s.vm.findClass RL = some m.cls) (hts : ∀ w ∈ wsL_law, w.before #[Value.ref b] s = true) (hX : va_X b L xs s s.heap) (hbl : b < s.heap.size) (hbB : b < B) (hK : kl_K G s) (hZ : kl_Z B s s.heap) {Q : State → Prop} {cells slots : Nat} (hcs : cells + 100 ≤ room_1.cells ∧ slots + 3000 ≤ room_1.slots) {w : kl_M} {H : Heap} {locs : List Loc} {ls : Array Slot} {i : Nat} (hi : i + 6 ≤ L) (hL : L ≤ 384) {ec : Int32} {ol : Nat → Int64} (hI : mr_I G B w ec ol) (hP : kl_S G B w s.heap H locs) (hl : lv_has ls 7 [(0, .ref b), (1, .ref (B + 0)), (2, .ref (B + 26)), (3, .ref (B + 47)), (4, .int (nI i))])
    (kk : ∀ (w2 : kl_M) (H2 : Heap) (locs2 : List Loc) (ls2 : Array Slot) (ec2 : Int32) (ol2 : Nat → Int64), mr_I G B w2 ec2 ol2 → kl_S G B w2 s.heap H2 locs2 → lv_has ls2 7 [(0, .ref b), (1, .ref (B + 0)), (2, .ref (B + 26)), (3, .ref (B + 47)), (4, .int (nI i))] → W p l e room_1 s m #[Value.ref b] below meth c H2 locs2 (cells + 50) (slots + 500) Q (F0 m 1236 ls2 [])) :
    W p l e room_1 s m #[Value.ref b] below meth c H locs cells slots Q (F0 m 616 ls []) := by
  obtain ⟨nT, nL, nS, nC, nW, nM, n, rs, cn, wt, T, C, mT, mC, lf, sf, cf, la, lch, lco, lpa, lwy, sa, stb, sco, ca, cwa, cpa, ctb, cln, cwd, ccol, O, D, kR, kO, kD, cw, hJ⟩ := hI
  have hJ2 := hJ
  obtain ⟨⟨dT, dC, gg, k0, k1, k2, k3, k4, k5, k6, k7, k8, k9, k10, k11, k12, k13, k14, k15, k16, k17, k18, k19, k20, k21, k22, k23, k24, k25⟩, hru, ⟨on, hi9, oO, oD, gn, pl, hMF⟩, k47, ⟨⟨m1, m2, m3, m4, m5, m6⟩, hcn2, hwt⟩, hRC, hRW, hW, hM⟩ := hJ2
  have hcn4 : ∀ j, j < nT → cn j ≤ 4 := fun j hj => (hcn2 j hj).2
  have hu := hJ.uniq
  have hpar := hRC.par
  have hn24 : n ≤ 24 := hRW.2.2.2.2
  have hrp := hRC.2.1
  have hrl3 : ∀ j, j < nL → lch j ≠ -1 ∧ lpa j ≠ -1 ∧ lco j < 4 := fun j hj => ⟨(hrp.1 j hj).1, (hrp.1 j hj).2.1, (hrp.1 j hj).2.2.1.2⟩
  have hkR : ∀ j, j < nM → kR j ≤ 24 := fun j hj => (hM j hj).2.2.2.2
  refine lv_aload_n hx hb dL_law_616 rfl (lv_at hl 1 rfl) ?_
  refine lv_aload_n hx hb dL_law_617 rfl (lv_at hl 0 rfl) ?_
  refine lv_iload hx hb dL_law_618 (lv_at hl 4 rfl) ?_
  refine lv_iconst (v := nI 1) hx hb dL_law_620 (by decide) ?_
  refine lv_iadd hx hb dL_law_621 ?_
  refine kl_top (z := nI (i + 1)) (by first | exact nI_add _ _ | (rw [nI_add]; first | rfl | (congr 1; omega))) ?_
  refine kl_sld hx hb hX hbl hbB hP (by omega) hL dL_law_622 ?_
  refine lv_aload_n hx hb dL_law_623 rfl (lv_at hl 0 rfl) ?_
  refine lv_iload hx hb dL_law_624 (lv_at hl 4 rfl) ?_
  refine lv_iconst (v := nI 2) hx hb dL_law_626 (by decide) ?_
  refine lv_iadd hx hb dL_law_627 ?_
  refine kl_top (z := nI (i + 2)) (by first | exact nI_add _ _ | (rw [nI_add]; first | rfl | (congr 1; omega))) ?_
  refine kl_sld hx hb hX hbl hbB hP (by omega) hL dL_law_628 ?_
  refine lv_aload_n hx hb dL_law_629 rfl (lv_at hl 0 rfl) ?_
  refine lv_iload hx hb dL_law_630 (lv_at hl 4 rfl) ?_
  refine lv_iconst (v := nI 3) hx hb dL_law_632 (by decide) ?_
  refine lv_iadd hx hb dL_law_633 ?_
  refine kl_top (z := nI (i + 3)) (by first | exact nI_add _ _ | (rw [nI_add]; first | rfl | (congr 1; omega))) ?_
  refine kl_sld hx hb hX hbl hbB hP (by omega) hL dL_law_634 ?_
  refine lv_aload_n hx hb dL_law_635 rfl (lv_at hl 0 rfl) ?_
  refine lv_iload hx hb dL_law_636 (lv_at hl 4 rfl) ?_
  refine lv_iconst (v := nI 4) hx hb dL_law_638 (by decide) ?_
  refine lv_iadd hx hb dL_law_639 ?_
  refine kl_top (z := nI (i + 4)) (by first | exact nI_add _ _ | (rw [nI_add]; first | rfl | (congr 1; omega))) ?_
  refine kl_sld hx hb hX hbl hbB hP (by omega) hL dL_law_640 ?_
  refine lv_aload_n hx hb dL_law_641 rfl (lv_at hl 3 rfl) ?_
  refine klx_cSXi (As := [.ref (B + 0), .int (xs (i + 1)), .int (xs (i + 2)), .int (xs (i + 3)), .int (xs (i + 4)), .ref (B + 47)]) (rest := []) ⟨hx, hb, hml, hown, hts⟩ (c_L_update l hst G B _ (xs (i + 1)) (xs (i + 2)) (xs (i + 3)) (xs (i + 4)) k0 k1 k2 k3 k4 k6 k7 k8 k9 k10 k11 k47 ⟨m1, m2, m3, m4, m5, m6⟩ hru hcn4 hu hpar) (vx_cwSW 6 hts gL_law_L_update rfl rfl rfl (by decide +kernel) ⟨Nat.le_of_ble_eq_true rfl, Nat.le_of_ble_eq_true rfl⟩) hK hZ hP rfl hl.1 rfl (Nat.le_of_ble_eq_true rfl) dL_law_642 ⟨by show cells + 3 ≤ room_1.cells; omega, by show slots + 18 ≤ room_1.slots; omega⟩ (fun _ _ _ _ _ _ hpx _ _ _ _ => hpx.elim) (fun r3 w1 H locs q2 hP => ?_)
  have hMF1 := opm_update (xs (i + 1)) (xs (i + 2)) (xs (i + 3)) (xs (i + 4)) hMF q2
  obtain ⟨q26, q27, q28, q29, q30, q31, q32, q33, q34, q35, q36, q37, q38, q39, q40, q41, q42, q43, q44, q45, q46⟩ := hMF1
  refine lv_istore (lv' := [(5, .int r3), (0, .ref b), (1, .ref (B + 0)), (2, .ref (B + 26)), (3, .ref (B + 47)), (4, .int (nI i))]) hx hb dL_law_645 hl (by decide) rfl (fun ls hl => ?_)
  refine lv_aload_n hx hb dL_law_647 rfl (lv_at hl 3 rfl) ?_
  refine lv_aload_n hx hb dL_law_648 rfl (lv_at hl 1 rfl) ?_
  refine lv_iload hx hb dL_law_649 (lv_at hl 5 rfl) ?_
  refine lv_iconst (v := nI 1) hx hb dL_law_651 (by decide) ?_
  refine lv_iadd hx hb dL_law_652 ?_
  refine kl_top (z := nI (i + 1)) (by first | exact nI_add _ _ | (rw [nI_add]; first | rfl | (congr 1; omega))) ?_
  refine kl_sld hx hb hX hbl hbB hP (by omega) hL dL_law_653 ?_
  refine lv_aload_n hx hb dL_law_654 rfl (lv_at hl 1 rfl) ?_
  refine lv_iload hx hb dL_law_655 (lv_at hl 5 rfl) ?_
  refine lv_iconst (v := nI 2) hx hb dL_law_657 (by decide) ?_
  refine lv_iadd hx hb dL_law_658 ?_
  refine kl_top (z := nI (i + 2)) (by first | exact nI_add _ _ | (rw [nI_add]; first | rfl | (congr 1; omega))) ?_
  refine kl_sld hx hb hX hbl hbB hP (by omega) hL dL_law_659 ?_
  refine lv_aload_n hx hb dL_law_660 rfl (lv_at hl 1 rfl) ?_
  refine lv_iload hx hb dL_law_661 (lv_at hl 5 rfl) ?_
  refine lv_iconst (v := nI 3) hx hb dL_law_663 (by decide) ?_
  refine lv_iadd hx hb dL_law_664 ?_
  refine kl_top (z := nI (i + 3)) (by first | exact nI_add _ _ | (rw [nI_add]; first | rfl | (congr 1; omega))) ?_
  refine kl_sld hx hb hX hbl hbB hP (by omega) hL dL_law_665 ?_
  refine lv_aload_n hx hb dL_law_666 rfl (lv_at hl 1 rfl) ?_
  refine lv_iload hx hb dL_law_667 (lv_at hl 5 rfl) ?_
  refine lv_iconst (v := nI 4) hx hb dL_law_669 (by decide) ?_
  refine lv_iadd hx hb dL_law_670 ?_
  refine kl_top (z := nI (i + 4)) (by first | exact nI_add _ _ | (rw [nI_add]; first | rfl | (congr 1; omega))) ?_
  refine kl_sld hx hb hX hbl hbB hP (by omega) hL dL_law_671 ?_
  refine kl_cVi (C := RX5) (i := 26) (As := [.int (xs (i + 1)), .int (xs (i + 2)), .int (xs (i + 3)), .int (xs (i + 4))]) (rest := []) ⟨hx, hb, hml, hown, hts⟩ (c_X5_update l G B _ ccol (xs (i + 1)) (xs (i + 2)) (xs (i + 3)) (xs (i + 4)) q26 q27 q28 q29 q30 q31 q32 q33 q34 q35 q36 q37 q38 q39 q40 q41 q43 ⟨m1, m2, m3, m4, hn24⟩ hrp hcn4) (cwV 4 hts gL_law_X5_update rfl rfl rfl (by decide +kernel) ⟨Nat.le_of_ble_eq_true rfl, Nat.le_of_ble_eq_true rfl⟩) hK hP q26 rfl rfl hl.1 rfl (Nat.le_of_ble_eq_true rfl) dL_law_672 ⟨by show cells + 3 + 0 ≤ room_1.cells; omega, by show slots + 18 + 0 ≤ room_1.slots; omega⟩ (fun r6 w4 H locs q5 hP => ?_)
  obtain ⟨ol3, hI2, hout⟩ := op_update (xs (i + 1)) (xs (i + 2)) (xs (i + 3)) (xs (i + 4)) hJ hMF q2 q5
  have hI3 := hI2
  obtain ⟨nT3, nL3, nS3, nC3, nW3, nM3, n3, rs3, cn3, wt3, T3, C3, mT3, mC3, lf3, sf3, cf3, la3, lch3, lco3, lpa3, lwy3, sa3, stb3, sco3, ca3, cwa3, cpa3, ctb3, cln3, cwd3, ccol3, O3, D3, kR3, kO3, kD3, cw3, hJ3⟩ := hI3
  obtain ⟨-, -, ⟨on3, hi3, oO3, oD3, gn3, pl3, hMF3⟩, f473, -⟩ := hJ3
  have f263 := hMF3.1
  refine lv_istore (lv' := [(6, .int r6), (5, .int r3), (0, .ref b), (1, .ref (B + 0)), (2, .ref (B + 26)), (3, .ref (B + 47)), (4, .int (nI i))]) hx hb dL_law_675 hl (by decide) rfl (fun ls hl => ?_)
  refine lv_aload_n hx hb dL_law_677 rfl (lv_at hl 4 rfl) ?_
  refine kl_cVi (C := RX5) (i := 26) (As := []) (rest := []) ⟨hx, hb, hml, hown, hts⟩ (c_X5_thrown l G B _ f263) (cwV 0 hts gL_law_X5_thrown rfl rfl rfl (by decide +kernel) ⟨Nat.le_of_ble_eq_true rfl, Nat.le_of_ble_eq_true rfl⟩) hK hP f263 rfl rfl hl.1 rfl (Nat.le_of_ble_eq_true rfl) dL_law_678 ⟨by show cells + 3 + 0 + 0 ≤ room_1.cells; omega, by show slots + 18 + 0 + 0 ≤ room_1.slots; omega⟩ (fun r9 w7 H locs q8 hP => ?_)
  obtain ⟨hw9, hr9⟩ := q8
  subst hw9
  refine kl_top (z := r3) hr9 ?_
  refine lv_iload hx hb dL_law_681 (lv_at hl 1 rfl) ?_
  refine lv_icmp_eq (tgt := 688) hx hb dL_law_683 (by decide) (fun c683 => ?_) (fun c683 => absurd rfl c683)
  refine lv_iload hx hb dL_law_688 (lv_at hl 1 rfl) ?_
  refine lv_if_ne (tgt := 705) hx hb dL_law_690 (by decide) (fun c690 => ?_) (fun c690 => ?_)
  · refine lv_goto (tgt := 1236) hx hb dL_law_705 (by decide) ?_
    refine W.widen (k := cells + 50) (n := slots + 500) (by omega) (by omega) ?_
    exact kk _ _ _ _ _ _ hI2 hP (lv_sub hl [2, 3, 4, 5, 6] rfl)
  · refine lv_aload_n hx hb dL_law_693 rfl (lv_at hl 5 rfl) ?_
    refine lv_iconst (v := nI 0) hx hb dL_law_694 (by decide) ?_
    refine kl_lald hx hb hK hP f473 (by omega) (by omega) dL_law_695 ?_
    refine lv_iload hx hb dL_law_696 (lv_at hl 0 rfl) ?_
    refine lv_i2l hx hb dL_law_698 rfl ?_
    refine W.lcmp hx hb dL_law_699 ?_
    refine lv_if_eq (tgt := 705) hx hb dL_law_700 (by decide) (fun c700 => ?_) (fun c700 => absurd (by rw [hout c690]; simp [lg_cmp]) c700)
    refine lv_goto (tgt := 1236) hx hb dL_law_705 (by decide) ?_
    refine W.widen (k := cells + 50) (n := slots + 500) (by omega) (by omega) ?_
    exact kk _ _ _ _ _ _ hI2 hP (lv_sub hl [2, 3, 4, 5, 6] rfl)

set_option maxHeartbeats 4000000 in
set_option maxRecDepth 100000 in
theorem law_shift {p : Program} {e : Env} {s : State} {m : MethodId} {below : List Frame} {meth : Method} {c : Code} (l : Launch) (hst : l.stackTraces = false) {b L : Nat} {xs : Nat → Int32} (G : kl_G) {B : Nat} (hx : p.tables.exec = Jvm.exec) (hb : c.code = cL_law) (hml : c.maxLocals = 7) (hown : s.vm.findClass RL = some m.cls) (hts : ∀ w ∈ wsL_law, w.before #[Value.ref b] s = true) (hX : va_X b L xs s s.heap) (hbl : b < s.heap.size) (hbB : b < B) (hK : kl_K G s) (hZ : kl_Z B s s.heap) {Q : State → Prop} {cells slots : Nat} (hcs : cells + 100 ≤ room_1.cells ∧ slots + 3000 ≤ room_1.slots) {w : kl_M} {H : Heap} {locs : List Loc} {ls : Array Slot} {i : Nat} (hi : i + 6 ≤ L) (hL : L ≤ 384) {ec : Int32} {ol : Nat → Int64} (hI : mr_I G B w ec ol) (hP : kl_S G B w s.heap H locs) (hl : lv_has ls 7 [(0, .ref b), (1, .ref (B + 0)), (2, .ref (B + 26)), (3, .ref (B + 47)), (4, .int (nI i))])
    (kk : ∀ (w2 : kl_M) (H2 : Heap) (locs2 : List Loc) (ls2 : Array Slot) (ec2 : Int32) (ol2 : Nat → Int64), mr_I G B w2 ec2 ol2 → kl_S G B w2 s.heap H2 locs2 → lv_has ls2 7 [(0, .ref b), (1, .ref (B + 0)), (2, .ref (B + 26)), (3, .ref (B + 47)), (4, .int (nI i))] → W p l e room_1 s m #[Value.ref b] below meth c H2 locs2 (cells + 50) (slots + 500) Q (F0 m 1236 ls2 [])) :
    W p l e room_1 s m #[Value.ref b] below meth c H locs cells slots Q (F0 m 708 ls []) := by
  obtain ⟨nT, nL, nS, nC, nW, nM, n, rs, cn, wt, T, C, mT, mC, lf, sf, cf, la, lch, lco, lpa, lwy, sa, stb, sco, ca, cwa, cpa, ctb, cln, cwd, ccol, O, D, kR, kO, kD, cw, hJ⟩ := hI
  have hJ2 := hJ
  obtain ⟨⟨dT, dC, gg, k0, k1, k2, k3, k4, k5, k6, k7, k8, k9, k10, k11, k12, k13, k14, k15, k16, k17, k18, k19, k20, k21, k22, k23, k24, k25⟩, hru, ⟨on, hi9, oO, oD, gn, pl, hMF⟩, k47, ⟨⟨m1, m2, m3, m4, m5, m6⟩, hcn2, hwt⟩, hRC, hRW, hW, hM⟩ := hJ2
  have hcn4 : ∀ j, j < nT → cn j ≤ 4 := fun j hj => (hcn2 j hj).2
  have hu := hJ.uniq
  have hpar := hRC.par
  have hn24 : n ≤ 24 := hRW.2.2.2.2
  have hrp := hRC.2.1
  have hrl3 : ∀ j, j < nL → lch j ≠ -1 ∧ lpa j ≠ -1 ∧ lco j < 4 := fun j hj => ⟨(hrp.1 j hj).1, (hrp.1 j hj).2.1, (hrp.1 j hj).2.2.1.2⟩
  have hkR : ∀ j, j < nM → kR j ≤ 24 := fun j hj => (hM j hj).2.2.2.2
  refine lv_aload_n hx hb dL_law_708 rfl (lv_at hl 1 rfl) ?_
  refine lv_aload_n hx hb dL_law_709 rfl (lv_at hl 0 rfl) ?_
  refine lv_iload hx hb dL_law_710 (lv_at hl 4 rfl) ?_
  refine lv_iconst (v := nI 1) hx hb dL_law_712 (by decide) ?_
  refine lv_iadd hx hb dL_law_713 ?_
  refine kl_top (z := nI (i + 1)) (by first | exact nI_add _ _ | (rw [nI_add]; first | rfl | (congr 1; omega))) ?_
  refine kl_sld hx hb hX hbl hbB hP (by omega) hL dL_law_714 ?_
  refine lv_aload_n hx hb dL_law_715 rfl (lv_at hl 0 rfl) ?_
  refine lv_iload hx hb dL_law_716 (lv_at hl 4 rfl) ?_
  refine lv_iconst (v := nI 2) hx hb dL_law_718 (by decide) ?_
  refine lv_iadd hx hb dL_law_719 ?_
  refine kl_top (z := nI (i + 2)) (by first | exact nI_add _ _ | (rw [nI_add]; first | rfl | (congr 1; omega))) ?_
  refine kl_sld hx hb hX hbl hbB hP (by omega) hL dL_law_720 ?_
  refine lv_aload_n hx hb dL_law_721 rfl (lv_at hl 0 rfl) ?_
  refine lv_iload hx hb dL_law_722 (lv_at hl 4 rfl) ?_
  refine lv_iconst (v := nI 3) hx hb dL_law_724 (by decide) ?_
  refine lv_iadd hx hb dL_law_725 ?_
  refine kl_top (z := nI (i + 3)) (by first | exact nI_add _ _ | (rw [nI_add]; first | rfl | (congr 1; omega))) ?_
  refine kl_sld hx hb hX hbl hbB hP (by omega) hL dL_law_726 ?_
  refine lv_aload_n hx hb dL_law_727 rfl (lv_at hl 3 rfl) ?_
  refine klx_cSXi (As := [.ref (B + 0), .int (xs (i + 1)), .int (xs (i + 2)), .int (xs (i + 3)), .ref (B + 47)]) (rest := []) ⟨hx, hb, hml, hown, hts⟩ (c_L_shift l hst G B _ (xs (i + 1)) (xs (i + 2)) (xs (i + 3)) k0 k1 k2 k3 k4 k6 k7 k8 k9 k10 k11 k47 ⟨m1, m2, m3, m4, m5, m6⟩ hru hcn4) (vx_cwSW 5 hts gL_law_L_shift rfl rfl rfl (by decide +kernel) ⟨Nat.le_of_ble_eq_true rfl, Nat.le_of_ble_eq_true rfl⟩) hK hZ hP rfl hl.1 rfl (Nat.le_of_ble_eq_true rfl) dL_law_728 ⟨by show cells + 2 ≤ room_1.cells; omega, by show slots + 12 ≤ room_1.slots; omega⟩ (fun _ _ _ _ _ _ hpx _ _ _ _ => hpx.elim) (fun r3 w1 H locs q2 hP => ?_)
  have hMF1 := opm_shift (xs (i + 1)) (xs (i + 2)) (xs (i + 3)) hMF q2
  obtain ⟨q26, q27, q28, q29, q30, q31, q32, q33, q34, q35, q36, q37, q38, q39, q40, q41, q42, q43, q44, q45, q46⟩ := hMF1
  refine lv_istore (lv' := [(5, .int r3), (0, .ref b), (1, .ref (B + 0)), (2, .ref (B + 26)), (3, .ref (B + 47)), (4, .int (nI i))]) hx hb dL_law_731 hl (by decide) rfl (fun ls hl => ?_)
  refine lv_aload_n hx hb dL_law_733 rfl (lv_at hl 3 rfl) ?_
  refine lv_aload_n hx hb dL_law_734 rfl (lv_at hl 1 rfl) ?_
  refine lv_iload hx hb dL_law_735 (lv_at hl 5 rfl) ?_
  refine lv_iconst (v := nI 1) hx hb dL_law_737 (by decide) ?_
  refine lv_iadd hx hb dL_law_738 ?_
  refine kl_top (z := nI (i + 1)) (by first | exact nI_add _ _ | (rw [nI_add]; first | rfl | (congr 1; omega))) ?_
  refine kl_sld hx hb hX hbl hbB hP (by omega) hL dL_law_739 ?_
  refine lv_aload_n hx hb dL_law_740 rfl (lv_at hl 1 rfl) ?_
  refine lv_iload hx hb dL_law_741 (lv_at hl 5 rfl) ?_
  refine lv_iconst (v := nI 2) hx hb dL_law_743 (by decide) ?_
  refine lv_iadd hx hb dL_law_744 ?_
  refine kl_top (z := nI (i + 2)) (by first | exact nI_add _ _ | (rw [nI_add]; first | rfl | (congr 1; omega))) ?_
  refine kl_sld hx hb hX hbl hbB hP (by omega) hL dL_law_745 ?_
  refine lv_aload_n hx hb dL_law_746 rfl (lv_at hl 1 rfl) ?_
  refine lv_iload hx hb dL_law_747 (lv_at hl 5 rfl) ?_
  refine lv_iconst (v := nI 3) hx hb dL_law_749 (by decide) ?_
  refine lv_iadd hx hb dL_law_750 ?_
  refine kl_top (z := nI (i + 3)) (by first | exact nI_add _ _ | (rw [nI_add]; first | rfl | (congr 1; omega))) ?_
  refine kl_sld hx hb hX hbl hbB hP (by omega) hL dL_law_751 ?_
  refine kl_cVi (C := RX5) (i := 26) (As := [.int (xs (i + 1)), .int (xs (i + 2)), .int (xs (i + 3))]) (rest := []) ⟨hx, hb, hml, hown, hts⟩ (c_X5_shift l G B _ ccol (xs (i + 1)) (xs (i + 2)) (xs (i + 3)) q26 q27 q28 q29 q30 q31 q32 q33 q34 q35 q36 q37 q38 q39 q40 q41 q43 ⟨m1, m2, m3, m4, hn24⟩ hrp hcn4) (cwV 3 hts gL_law_X5_shift rfl rfl rfl (by decide +kernel) ⟨Nat.le_of_ble_eq_true rfl, Nat.le_of_ble_eq_true rfl⟩) hK hP q26 rfl rfl hl.1 rfl (Nat.le_of_ble_eq_true rfl) dL_law_752 ⟨by show cells + 2 + 0 ≤ room_1.cells; omega, by show slots + 12 + 0 ≤ room_1.slots; omega⟩ (fun r6 w4 H locs q5 hP => ?_)
  obtain ⟨ol3, hI2, hout⟩ := op_shift (xs (i + 1)) (xs (i + 2)) (xs (i + 3)) hJ hMF q2 q5
  have hI3 := hI2
  obtain ⟨nT3, nL3, nS3, nC3, nW3, nM3, n3, rs3, cn3, wt3, T3, C3, mT3, mC3, lf3, sf3, cf3, la3, lch3, lco3, lpa3, lwy3, sa3, stb3, sco3, ca3, cwa3, cpa3, ctb3, cln3, cwd3, ccol3, O3, D3, kR3, kO3, kD3, cw3, hJ3⟩ := hI3
  obtain ⟨-, -, ⟨on3, hi3, oO3, oD3, gn3, pl3, hMF3⟩, f473, -⟩ := hJ3
  have f263 := hMF3.1
  refine lv_istore (lv' := [(6, .int r6), (5, .int r3), (0, .ref b), (1, .ref (B + 0)), (2, .ref (B + 26)), (3, .ref (B + 47)), (4, .int (nI i))]) hx hb dL_law_755 hl (by decide) rfl (fun ls hl => ?_)
  refine lv_aload_n hx hb dL_law_757 rfl (lv_at hl 4 rfl) ?_
  refine kl_cVi (C := RX5) (i := 26) (As := []) (rest := []) ⟨hx, hb, hml, hown, hts⟩ (c_X5_thrown l G B _ f263) (cwV 0 hts gL_law_X5_thrown rfl rfl rfl (by decide +kernel) ⟨Nat.le_of_ble_eq_true rfl, Nat.le_of_ble_eq_true rfl⟩) hK hP f263 rfl rfl hl.1 rfl (Nat.le_of_ble_eq_true rfl) dL_law_758 ⟨by show cells + 2 + 0 + 0 ≤ room_1.cells; omega, by show slots + 12 + 0 + 0 ≤ room_1.slots; omega⟩ (fun r9 w7 H locs q8 hP => ?_)
  obtain ⟨hw9, hr9⟩ := q8
  subst hw9
  refine kl_top (z := r3) hr9 ?_
  refine lv_iload hx hb dL_law_761 (lv_at hl 1 rfl) ?_
  refine lv_icmp_eq (tgt := 768) hx hb dL_law_763 (by decide) (fun c763 => ?_) (fun c763 => absurd rfl c763)
  refine lv_iload hx hb dL_law_768 (lv_at hl 1 rfl) ?_
  refine lv_if_ne (tgt := 785) hx hb dL_law_770 (by decide) (fun c770 => ?_) (fun c770 => ?_)
  · refine lv_goto (tgt := 1236) hx hb dL_law_785 (by decide) ?_
    refine W.widen (k := cells + 50) (n := slots + 500) (by omega) (by omega) ?_
    exact kk _ _ _ _ _ _ hI2 hP (lv_sub hl [2, 3, 4, 5, 6] rfl)
  · refine lv_aload_n hx hb dL_law_773 rfl (lv_at hl 5 rfl) ?_
    refine lv_iconst (v := nI 0) hx hb dL_law_774 (by decide) ?_
    refine kl_lald hx hb hK hP f473 (by omega) (by omega) dL_law_775 ?_
    refine lv_iload hx hb dL_law_776 (lv_at hl 0 rfl) ?_
    refine lv_i2l hx hb dL_law_778 rfl ?_
    refine W.lcmp hx hb dL_law_779 ?_
    refine lv_if_eq (tgt := 785) hx hb dL_law_780 (by decide) (fun c780 => ?_) (fun c780 => absurd (by rw [hout c770]; simp [lg_cmp]) c780)
    refine lv_goto (tgt := 1236) hx hb dL_law_785 (by decide) ?_
    refine W.widen (k := cells + 50) (n := slots + 500) (by omega) (by omega) ?_
    exact kk _ _ _ _ _ _ hI2 hP (lv_sub hl [2, 3, 4, 5, 6] rfl)

set_option maxHeartbeats 4000000 in
set_option maxRecDepth 100000 in
theorem law_keep {p : Program} {e : Env} {s : State} {m : MethodId} {below : List Frame} {meth : Method} {c : Code} (l : Launch) (hst : l.stackTraces = false) {b L : Nat} {xs : Nat → Int32} (G : kl_G) {B : Nat} (hx : p.tables.exec = Jvm.exec) (hb : c.code = cL_law) (hml : c.maxLocals = 7) (hown : s.vm.findClass RL = some m.cls) (hts : ∀ w ∈ wsL_law, w.before #[Value.ref b] s = true) (hX : va_X b L xs s s.heap) (hbl : b < s.heap.size) (hbB : b < B) (hK : kl_K G s) (hZ : kl_Z B s s.heap) {Q : State → Prop} {cells slots : Nat} (hcs : cells + 100 ≤ room_1.cells ∧ slots + 3000 ≤ room_1.slots) {w : kl_M} {H : Heap} {locs : List Loc} {ls : Array Slot} {i : Nat} (hi : i + 6 ≤ L) (hL : L ≤ 384) {ec : Int32} {ol : Nat → Int64} (hI : mr_I G B w ec ol) (hP : kl_S G B w s.heap H locs) (hl : lv_has ls 7 [(0, .ref b), (1, .ref (B + 0)), (2, .ref (B + 26)), (3, .ref (B + 47)), (4, .int (nI i))])
    (kk : ∀ (w2 : kl_M) (H2 : Heap) (locs2 : List Loc) (ls2 : Array Slot) (ec2 : Int32) (ol2 : Nat → Int64), mr_I G B w2 ec2 ol2 → kl_S G B w2 s.heap H2 locs2 → lv_has ls2 7 [(0, .ref b), (1, .ref (B + 0)), (2, .ref (B + 26)), (3, .ref (B + 47)), (4, .int (nI i))] → W p l e room_1 s m #[Value.ref b] below meth c H2 locs2 (cells + 50) (slots + 500) Q (F0 m 1236 ls2 [])) :
    W p l e room_1 s m #[Value.ref b] below meth c H locs cells slots Q (F0 m 788 ls []) := by
  obtain ⟨nT, nL, nS, nC, nW, nM, n, rs, cn, wt, T, C, mT, mC, lf, sf, cf, la, lch, lco, lpa, lwy, sa, stb, sco, ca, cwa, cpa, ctb, cln, cwd, ccol, O, D, kR, kO, kD, cw, hJ⟩ := hI
  have hJ2 := hJ
  obtain ⟨⟨dT, dC, gg, k0, k1, k2, k3, k4, k5, k6, k7, k8, k9, k10, k11, k12, k13, k14, k15, k16, k17, k18, k19, k20, k21, k22, k23, k24, k25⟩, hru, ⟨on, hi9, oO, oD, gn, pl, hMF⟩, k47, ⟨⟨m1, m2, m3, m4, m5, m6⟩, hcn2, hwt⟩, hRC, hRW, hW, hM⟩ := hJ2
  have hcn4 : ∀ j, j < nT → cn j ≤ 4 := fun j hj => (hcn2 j hj).2
  have hu := hJ.uniq
  have hpar := hRC.par
  have hn24 : n ≤ 24 := hRW.2.2.2.2
  have hrp := hRC.2.1
  have hrl3 : ∀ j, j < nL → lch j ≠ -1 ∧ lpa j ≠ -1 ∧ lco j < 4 := fun j hj => ⟨(hrp.1 j hj).1, (hrp.1 j hj).2.1, (hrp.1 j hj).2.2.1.2⟩
  have hkR : ∀ j, j < nM → kR j ≤ 24 := fun j hj => (hM j hj).2.2.2.2
  refine lv_aload_n hx hb dL_law_788 rfl (lv_at hl 1 rfl) ?_
  refine lv_aload_n hx hb dL_law_789 rfl (lv_at hl 3 rfl) ?_
  refine klx_cSXi (As := [.ref (B + 0), .ref (B + 47)]) (rest := []) ⟨hx, hb, hml, hown, hts⟩ (c_L_keep l hst G B _  k0 k6 k7 k8 k12 k14 k15 k16 k17 k18 k19 k20 k21 k22 k23 k24 k25 k47 nM rfl m6) (vx_cwSW 2 hts gL_law_L_keep rfl rfl rfl (by decide +kernel) ⟨Nat.le_of_ble_eq_true rfl, Nat.le_of_ble_eq_true rfl⟩) hK hZ hP rfl hl.1 rfl (Nat.le_of_ble_eq_true rfl) dL_law_790 ⟨by show cells + 1 ≤ room_1.cells; omega, by show slots + 6 ≤ room_1.slots; omega⟩ (fun _ _ _ _ _ _ hpx _ _ _ _ => hpx.elim) (fun r3 w1 H locs q2 hP => ?_)
  have hMF1 := opm_keep  hMF q2
  obtain ⟨q26, q27, q28, q29, q30, q31, q32, q33, q34, q35, q36, q37, q38, q39, q40, q41, q42, q43, q44, q45, q46⟩ := hMF1
  refine lv_istore (lv' := [(5, .int r3), (0, .ref b), (1, .ref (B + 0)), (2, .ref (B + 26)), (3, .ref (B + 47)), (4, .int (nI i))]) hx hb dL_law_793 hl (by decide) rfl (fun ls hl => ?_)
  refine lv_aload_n hx hb dL_law_795 rfl (lv_at hl 3 rfl) ?_
  refine kl_cVi (C := RX5) (i := 26) (As := []) (rest := []) ⟨hx, hb, hml, hown, hts⟩ (c_X5_keep l G B _  q26 q28 q29 q44 q45 q46 hn24 m6) (cwV 0 hts gL_law_X5_keep rfl rfl rfl (by decide +kernel) ⟨Nat.le_of_ble_eq_true rfl, Nat.le_of_ble_eq_true rfl⟩) hK hP q26 rfl rfl hl.1 rfl (Nat.le_of_ble_eq_true rfl) dL_law_796 ⟨by show cells + 1 + 0 ≤ room_1.cells; omega, by show slots + 6 + 0 ≤ room_1.slots; omega⟩ (fun r6 w4 H locs q5 hP => ?_)
  obtain ⟨ol3, hI2, hout⟩ := op_keep  hJ hMF q2 q5
  have hI3 := hI2
  obtain ⟨nT3, nL3, nS3, nC3, nW3, nM3, n3, rs3, cn3, wt3, T3, C3, mT3, mC3, lf3, sf3, cf3, la3, lch3, lco3, lpa3, lwy3, sa3, stb3, sco3, ca3, cwa3, cpa3, ctb3, cln3, cwd3, ccol3, O3, D3, kR3, kO3, kD3, cw3, hJ3⟩ := hI3
  obtain ⟨-, -, ⟨on3, hi3, oO3, oD3, gn3, pl3, hMF3⟩, f473, -⟩ := hJ3
  have f263 := hMF3.1
  refine lv_istore (lv' := [(6, .int r6), (5, .int r3), (0, .ref b), (1, .ref (B + 0)), (2, .ref (B + 26)), (3, .ref (B + 47)), (4, .int (nI i))]) hx hb dL_law_799 hl (by decide) rfl (fun ls hl => ?_)
  refine lv_aload_n hx hb dL_law_801 rfl (lv_at hl 4 rfl) ?_
  refine kl_cVi (C := RX5) (i := 26) (As := []) (rest := []) ⟨hx, hb, hml, hown, hts⟩ (c_X5_thrown l G B _ f263) (cwV 0 hts gL_law_X5_thrown rfl rfl rfl (by decide +kernel) ⟨Nat.le_of_ble_eq_true rfl, Nat.le_of_ble_eq_true rfl⟩) hK hP f263 rfl rfl hl.1 rfl (Nat.le_of_ble_eq_true rfl) dL_law_802 ⟨by show cells + 1 + 0 + 0 ≤ room_1.cells; omega, by show slots + 6 + 0 + 0 ≤ room_1.slots; omega⟩ (fun r9 w7 H locs q8 hP => ?_)
  obtain ⟨hw9, hr9⟩ := q8
  subst hw9
  refine kl_top (z := r3) hr9 ?_
  refine lv_iload hx hb dL_law_805 (lv_at hl 1 rfl) ?_
  refine lv_icmp_eq (tgt := 812) hx hb dL_law_807 (by decide) (fun c807 => ?_) (fun c807 => absurd rfl c807)
  refine lv_iload hx hb dL_law_812 (lv_at hl 1 rfl) ?_
  refine lv_if_ne (tgt := 829) hx hb dL_law_814 (by decide) (fun c814 => ?_) (fun c814 => ?_)
  · refine lv_goto (tgt := 1236) hx hb dL_law_829 (by decide) ?_
    refine W.widen (k := cells + 50) (n := slots + 500) (by omega) (by omega) ?_
    exact kk _ _ _ _ _ _ hI2 hP (lv_sub hl [2, 3, 4, 5, 6] rfl)
  · refine lv_aload_n hx hb dL_law_817 rfl (lv_at hl 5 rfl) ?_
    refine lv_iconst (v := nI 0) hx hb dL_law_818 (by decide) ?_
    refine kl_lald hx hb hK hP f473 (by omega) (by omega) dL_law_819 ?_
    refine lv_iload hx hb dL_law_820 (lv_at hl 0 rfl) ?_
    refine lv_i2l hx hb dL_law_822 rfl ?_
    refine W.lcmp hx hb dL_law_823 ?_
    refine lv_if_eq (tgt := 829) hx hb dL_law_824 (by decide) (fun c824 => ?_) (fun c824 => absurd (by rw [hout c814]; simp [lg_cmp]) c824)
    refine lv_goto (tgt := 1236) hx hb dL_law_829 (by decide) ?_
    refine W.widen (k := cells + 50) (n := slots + 500) (by omega) (by omega) ?_
    exact kk _ _ _ _ _ _ hI2 hP (lv_sub hl [2, 3, 4, 5, 6] rfl)

set_option maxHeartbeats 4000000 in
set_option maxRecDepth 100000 in
theorem law_back {p : Program} {e : Env} {s : State} {m : MethodId} {below : List Frame} {meth : Method} {c : Code} (l : Launch) (hst : l.stackTraces = false) {b L : Nat} {xs : Nat → Int32} (G : kl_G) {B : Nat} (hx : p.tables.exec = Jvm.exec) (hb : c.code = cL_law) (hml : c.maxLocals = 7) (hown : s.vm.findClass RL = some m.cls) (hts : ∀ w ∈ wsL_law, w.before #[Value.ref b] s = true) (hX : va_X b L xs s s.heap) (hbl : b < s.heap.size) (hbB : b < B) (hK : kl_K G s) (hZ : kl_Z B s s.heap) {Q : State → Prop} {cells slots : Nat} (hcs : cells + 100 ≤ room_1.cells ∧ slots + 3000 ≤ room_1.slots) {w : kl_M} {H : Heap} {locs : List Loc} {ls : Array Slot} {i : Nat} (hi : i + 6 ≤ L) (hL : L ≤ 384) {ec : Int32} {ol : Nat → Int64} (hI : mr_I G B w ec ol) (hP : kl_S G B w s.heap H locs) (hl : lv_has ls 7 [(0, .ref b), (1, .ref (B + 0)), (2, .ref (B + 26)), (3, .ref (B + 47)), (4, .int (nI i))])
    (kk : ∀ (w2 : kl_M) (H2 : Heap) (locs2 : List Loc) (ls2 : Array Slot) (ec2 : Int32) (ol2 : Nat → Int64), mr_I G B w2 ec2 ol2 → kl_S G B w2 s.heap H2 locs2 → lv_has ls2 7 [(0, .ref b), (1, .ref (B + 0)), (2, .ref (B + 26)), (3, .ref (B + 47)), (4, .int (nI i))] → W p l e room_1 s m #[Value.ref b] below meth c H2 locs2 (cells + 50) (slots + 500) Q (F0 m 1236 ls2 [])) :
    W p l e room_1 s m #[Value.ref b] below meth c H locs cells slots Q (F0 m 832 ls []) := by
  obtain ⟨nT, nL, nS, nC, nW, nM, n, rs, cn, wt, T, C, mT, mC, lf, sf, cf, la, lch, lco, lpa, lwy, sa, stb, sco, ca, cwa, cpa, ctb, cln, cwd, ccol, O, D, kR, kO, kD, cw, hJ⟩ := hI
  have hJ2 := hJ
  obtain ⟨⟨dT, dC, gg, k0, k1, k2, k3, k4, k5, k6, k7, k8, k9, k10, k11, k12, k13, k14, k15, k16, k17, k18, k19, k20, k21, k22, k23, k24, k25⟩, hru, ⟨on, hi9, oO, oD, gn, pl, hMF⟩, k47, ⟨⟨m1, m2, m3, m4, m5, m6⟩, hcn2, hwt⟩, hRC, hRW, hW, hM⟩ := hJ2
  have hcn4 : ∀ j, j < nT → cn j ≤ 4 := fun j hj => (hcn2 j hj).2
  have hu := hJ.uniq
  have hpar := hRC.par
  have hn24 : n ≤ 24 := hRW.2.2.2.2
  have hrp := hRC.2.1
  have hrl3 : ∀ j, j < nL → lch j ≠ -1 ∧ lpa j ≠ -1 ∧ lco j < 4 := fun j hj => ⟨(hrp.1 j hj).1, (hrp.1 j hj).2.1, (hrp.1 j hj).2.2.1.2⟩
  have hkR : ∀ j, j < nM → kR j ≤ 24 := fun j hj => (hM j hj).2.2.2.2
  refine lv_aload_n hx hb dL_law_832 rfl (lv_at hl 1 rfl) ?_
  refine lv_aload_n hx hb dL_law_833 rfl (lv_at hl 3 rfl) ?_
  refine klx_cSXi (As := [.ref (B + 0), .ref (B + 47)]) (rest := []) ⟨hx, hb, hml, hown, hts⟩ (c_L_back l hst G B _  k0 k2 k3 k4 k6 k7 k8 k12 k14 k15 k16 k17 k18 k19 k20 k21 k22 k23 k24 k25 k47 ⟨m1, m2, m3, m4, m5, m6⟩ hru) (vx_cwSW 2 hts gL_law_L_back rfl rfl rfl (by decide +kernel) ⟨Nat.le_of_ble_eq_true rfl, Nat.le_of_ble_eq_true rfl⟩) hK hZ hP rfl hl.1 rfl (Nat.le_of_ble_eq_true rfl) dL_law_834 ⟨by show cells + 2 ≤ room_1.cells; omega, by show slots + 12 ≤ room_1.slots; omega⟩ (fun _ _ _ _ _ _ hpx _ _ _ _ => hpx.elim) (fun r3 w1 H locs q2 hP => ?_)
  have hMF1 := opm_back  hMF q2
  obtain ⟨q26, q27, q28, q29, q30, q31, q32, q33, q34, q35, q36, q37, q38, q39, q40, q41, q42, q43, q44, q45, q46⟩ := hMF1
  refine lv_istore (lv' := [(5, .int r3), (0, .ref b), (1, .ref (B + 0)), (2, .ref (B + 26)), (3, .ref (B + 47)), (4, .int (nI i))]) hx hb dL_law_837 hl (by decide) rfl (fun ls hl => ?_)
  refine lv_aload_n hx hb dL_law_839 rfl (lv_at hl 3 rfl) ?_
  refine kl_cVi (C := RX5) (i := 26) (As := []) (rest := []) ⟨hx, hb, hml, hown, hts⟩ (c_X5_back l G B _ ccol  q26 q27 q28 q29 q30 q31 q32 q33 q34 q35 q36 q37 q38 q39 q40 q41 q43 q44 q45 q46 ⟨m1, m2, m3, m4, hn24⟩ hrp hcn4 m6 hkR) (cwV 0 hts gL_law_X5_back rfl rfl rfl (by decide +kernel) ⟨Nat.le_of_ble_eq_true rfl, Nat.le_of_ble_eq_true rfl⟩) hK hP q26 rfl rfl hl.1 rfl (Nat.le_of_ble_eq_true rfl) dL_law_840 ⟨by show cells + 2 + 0 ≤ room_1.cells; omega, by show slots + 12 + 0 ≤ room_1.slots; omega⟩ (fun r6 w4 H locs q5 hP => ?_)
  obtain ⟨ol3, hI2, hout⟩ := op_back  hJ hMF q2 q5
  have hI3 := hI2
  obtain ⟨nT3, nL3, nS3, nC3, nW3, nM3, n3, rs3, cn3, wt3, T3, C3, mT3, mC3, lf3, sf3, cf3, la3, lch3, lco3, lpa3, lwy3, sa3, stb3, sco3, ca3, cwa3, cpa3, ctb3, cln3, cwd3, ccol3, O3, D3, kR3, kO3, kD3, cw3, hJ3⟩ := hI3
  obtain ⟨-, -, ⟨on3, hi3, oO3, oD3, gn3, pl3, hMF3⟩, f473, -⟩ := hJ3
  have f263 := hMF3.1
  refine lv_istore (lv' := [(6, .int r6), (5, .int r3), (0, .ref b), (1, .ref (B + 0)), (2, .ref (B + 26)), (3, .ref (B + 47)), (4, .int (nI i))]) hx hb dL_law_843 hl (by decide) rfl (fun ls hl => ?_)
  refine lv_aload_n hx hb dL_law_845 rfl (lv_at hl 4 rfl) ?_
  refine kl_cVi (C := RX5) (i := 26) (As := []) (rest := []) ⟨hx, hb, hml, hown, hts⟩ (c_X5_thrown l G B _ f263) (cwV 0 hts gL_law_X5_thrown rfl rfl rfl (by decide +kernel) ⟨Nat.le_of_ble_eq_true rfl, Nat.le_of_ble_eq_true rfl⟩) hK hP f263 rfl rfl hl.1 rfl (Nat.le_of_ble_eq_true rfl) dL_law_846 ⟨by show cells + 2 + 0 + 0 ≤ room_1.cells; omega, by show slots + 12 + 0 + 0 ≤ room_1.slots; omega⟩ (fun r9 w7 H locs q8 hP => ?_)
  obtain ⟨hw9, hr9⟩ := q8
  subst hw9
  refine kl_top (z := r3) hr9 ?_
  refine lv_iload hx hb dL_law_849 (lv_at hl 1 rfl) ?_
  refine lv_icmp_eq (tgt := 856) hx hb dL_law_851 (by decide) (fun c851 => ?_) (fun c851 => absurd rfl c851)
  refine lv_iload hx hb dL_law_856 (lv_at hl 1 rfl) ?_
  refine lv_if_ne (tgt := 873) hx hb dL_law_858 (by decide) (fun c858 => ?_) (fun c858 => ?_)
  · refine lv_goto (tgt := 1236) hx hb dL_law_873 (by decide) ?_
    refine W.widen (k := cells + 50) (n := slots + 500) (by omega) (by omega) ?_
    exact kk _ _ _ _ _ _ hI2 hP (lv_sub hl [2, 3, 4, 5, 6] rfl)
  · refine lv_aload_n hx hb dL_law_861 rfl (lv_at hl 5 rfl) ?_
    refine lv_iconst (v := nI 0) hx hb dL_law_862 (by decide) ?_
    refine kl_lald hx hb hK hP f473 (by omega) (by omega) dL_law_863 ?_
    refine lv_iload hx hb dL_law_864 (lv_at hl 0 rfl) ?_
    refine lv_i2l hx hb dL_law_866 rfl ?_
    refine W.lcmp hx hb dL_law_867 ?_
    refine lv_if_eq (tgt := 873) hx hb dL_law_868 (by decide) (fun c868 => ?_) (fun c868 => absurd (by rw [hout c858]; simp [lg_cmp]) c868)
    refine lv_goto (tgt := 1236) hx hb dL_law_873 (by decide) ?_
    refine W.widen (k := cells + 50) (n := slots + 500) (by omega) (by omega) ?_
    exact kk _ _ _ _ _ _ hI2 hP (lv_sub hl [2, 3, 4, 5, 6] rfl)

set_option maxHeartbeats 4000000 in
set_option maxRecDepth 100000 in
theorem law_has {p : Program} {e : Env} {s : State} {m : MethodId} {below : List Frame} {meth : Method} {c : Code} (l : Launch) (hst : l.stackTraces = false) {b L : Nat} {xs : Nat → Int32} (G : kl_G) {B : Nat} (hx : p.tables.exec = Jvm.exec) (hb : c.code = cL_law) (hml : c.maxLocals = 7) (hown : s.vm.findClass RL = some m.cls) (hts : ∀ w ∈ wsL_law, w.before #[Value.ref b] s = true) (hX : va_X b L xs s s.heap) (hbl : b < s.heap.size) (hbB : b < B) (hK : kl_K G s) (hZ : kl_Z B s s.heap) {Q : State → Prop} {cells slots : Nat} (hcs : cells + 100 ≤ room_1.cells ∧ slots + 3000 ≤ room_1.slots) {w : kl_M} {H : Heap} {locs : List Loc} {ls : Array Slot} {i : Nat} (hi : i + 6 ≤ L) (hL : L ≤ 384) {ec : Int32} {ol : Nat → Int64} (hI : mr_I G B w ec ol) (hP : kl_S G B w s.heap H locs) (hl : lv_has ls 7 [(0, .ref b), (1, .ref (B + 0)), (2, .ref (B + 26)), (3, .ref (B + 47)), (4, .int (nI i))])
    (kk : ∀ (w2 : kl_M) (H2 : Heap) (locs2 : List Loc) (ls2 : Array Slot) (ec2 : Int32) (ol2 : Nat → Int64), mr_I G B w2 ec2 ol2 → kl_S G B w2 s.heap H2 locs2 → lv_has ls2 7 [(0, .ref b), (1, .ref (B + 0)), (2, .ref (B + 26)), (3, .ref (B + 47)), (4, .int (nI i))] → W p l e room_1 s m #[Value.ref b] below meth c H2 locs2 (cells + 50) (slots + 500) Q (F0 m 1236 ls2 [])) :
    W p l e room_1 s m #[Value.ref b] below meth c H locs cells slots Q (F0 m 876 ls []) := by
  obtain ⟨nT, nL, nS, nC, nW, nM, n, rs, cn, wt, T, C, mT, mC, lf, sf, cf, la, lch, lco, lpa, lwy, sa, stb, sco, ca, cwa, cpa, ctb, cln, cwd, ccol, O, D, kR, kO, kD, cw, hJ⟩ := hI
  have hJ2 := hJ
  obtain ⟨⟨dT, dC, gg, k0, k1, k2, k3, k4, k5, k6, k7, k8, k9, k10, k11, k12, k13, k14, k15, k16, k17, k18, k19, k20, k21, k22, k23, k24, k25⟩, hru, ⟨on, hi9, oO, oD, gn, pl, hMF⟩, k47, ⟨⟨m1, m2, m3, m4, m5, m6⟩, hcn2, hwt⟩, hRC, hRW, hW, hM⟩ := hJ2
  have hcn4 : ∀ j, j < nT → cn j ≤ 4 := fun j hj => (hcn2 j hj).2
  have hu := hJ.uniq
  have hpar := hRC.par
  have hn24 : n ≤ 24 := hRW.2.2.2.2
  have hrp := hRC.2.1
  have hrl3 : ∀ j, j < nL → lch j ≠ -1 ∧ lpa j ≠ -1 ∧ lco j < 4 := fun j hj => ⟨(hrp.1 j hj).1, (hrp.1 j hj).2.1, (hrp.1 j hj).2.2.1.2⟩
  have hkR : ∀ j, j < nM → kR j ≤ 24 := fun j hj => (hM j hj).2.2.2.2
  refine lv_aload_n hx hb dL_law_876 rfl (lv_at hl 1 rfl) ?_
  refine lv_aload_n hx hb dL_law_877 rfl (lv_at hl 0 rfl) ?_
  refine lv_iload hx hb dL_law_878 (lv_at hl 4 rfl) ?_
  refine lv_iconst (v := nI 1) hx hb dL_law_880 (by decide) ?_
  refine lv_iadd hx hb dL_law_881 ?_
  refine kl_top (z := nI (i + 1)) (by first | exact nI_add _ _ | (rw [nI_add]; first | rfl | (congr 1; omega))) ?_
  refine kl_sld hx hb hX hbl hbB hP (by omega) hL dL_law_882 ?_
  refine lv_aload_n hx hb dL_law_883 rfl (lv_at hl 0 rfl) ?_
  refine lv_iload hx hb dL_law_884 (lv_at hl 4 rfl) ?_
  refine lv_iconst (v := nI 2) hx hb dL_law_886 (by decide) ?_
  refine lv_iadd hx hb dL_law_887 ?_
  refine kl_top (z := nI (i + 2)) (by first | exact nI_add _ _ | (rw [nI_add]; first | rfl | (congr 1; omega))) ?_
  refine kl_sld hx hb hX hbl hbB hP (by omega) hL dL_law_888 ?_
  refine lv_aload_n hx hb dL_law_889 rfl (lv_at hl 3 rfl) ?_
  refine klx_cSXi (As := [.ref (B + 0), .int (xs (i + 1)), .int (xs (i + 2)), .ref (B + 47)]) (rest := []) ⟨hx, hb, hml, hown, hts⟩ (c_L_has l hst G B _ (xs (i + 1)) (xs (i + 2)) k0 k6 k7 k8 k47 m1) (vx_cwSW 4 hts gL_law_L_has rfl rfl rfl (by decide +kernel) ⟨Nat.le_of_ble_eq_true rfl, Nat.le_of_ble_eq_true rfl⟩) hK hZ hP rfl hl.1 rfl (Nat.le_of_ble_eq_true rfl) dL_law_890 ⟨by show cells + 1 ≤ room_1.cells; omega, by show slots + 6 ≤ room_1.slots; omega⟩ (fun _ _ _ _ _ _ hpx _ _ _ _ => hpx.elim) (fun r3 w1 H locs q2 hP => ?_)
  have hMF1 := opm_has (xs (i + 1)) (xs (i + 2)) hMF q2
  obtain ⟨q26, q27, q28, q29, q30, q31, q32, q33, q34, q35, q36, q37, q38, q39, q40, q41, q42, q43, q44, q45, q46⟩ := hMF1
  refine lv_istore (lv' := [(5, .int r3), (0, .ref b), (1, .ref (B + 0)), (2, .ref (B + 26)), (3, .ref (B + 47)), (4, .int (nI i))]) hx hb dL_law_893 hl (by decide) rfl (fun ls hl => ?_)
  refine lv_aload_n hx hb dL_law_895 rfl (lv_at hl 3 rfl) ?_
  refine lv_aload_n hx hb dL_law_896 rfl (lv_at hl 1 rfl) ?_
  refine lv_iload hx hb dL_law_897 (lv_at hl 5 rfl) ?_
  refine lv_iconst (v := nI 1) hx hb dL_law_899 (by decide) ?_
  refine lv_iadd hx hb dL_law_900 ?_
  refine kl_top (z := nI (i + 1)) (by first | exact nI_add _ _ | (rw [nI_add]; first | rfl | (congr 1; omega))) ?_
  refine kl_sld hx hb hX hbl hbB hP (by omega) hL dL_law_901 ?_
  refine lv_aload_n hx hb dL_law_902 rfl (lv_at hl 1 rfl) ?_
  refine lv_iload hx hb dL_law_903 (lv_at hl 5 rfl) ?_
  refine lv_iconst (v := nI 2) hx hb dL_law_905 (by decide) ?_
  refine lv_iadd hx hb dL_law_906 ?_
  refine kl_top (z := nI (i + 2)) (by first | exact nI_add _ _ | (rw [nI_add]; first | rfl | (congr 1; omega))) ?_
  refine kl_sld hx hb hX hbl hbB hP (by omega) hL dL_law_907 ?_
  refine kl_cVi (C := RX5) (i := 26) (As := [.int (xs (i + 1)), .int (xs (i + 2))]) (rest := []) ⟨hx, hb, hml, hown, hts⟩ (c_X5_has l G B _ (xs (i + 1)) (xs (i + 2)) q26 q28 q29 m1 hn24) (cwV 2 hts gL_law_X5_has rfl rfl rfl (by decide +kernel) ⟨Nat.le_of_ble_eq_true rfl, Nat.le_of_ble_eq_true rfl⟩) hK hP q26 rfl rfl hl.1 rfl (Nat.le_of_ble_eq_true rfl) dL_law_908 ⟨by show cells + 1 + 0 ≤ room_1.cells; omega, by show slots + 6 + 0 ≤ room_1.slots; omega⟩ (fun r6 w4 H locs q5 hP => ?_)
  obtain ⟨ol3, hI2, hout⟩ := op_has (xs (i + 1)) (xs (i + 2)) hJ hMF q2 q5
  have hI3 := hI2
  obtain ⟨nT3, nL3, nS3, nC3, nW3, nM3, n3, rs3, cn3, wt3, T3, C3, mT3, mC3, lf3, sf3, cf3, la3, lch3, lco3, lpa3, lwy3, sa3, stb3, sco3, ca3, cwa3, cpa3, ctb3, cln3, cwd3, ccol3, O3, D3, kR3, kO3, kD3, cw3, hJ3⟩ := hI3
  obtain ⟨-, -, ⟨on3, hi3, oO3, oD3, gn3, pl3, hMF3⟩, f473, -⟩ := hJ3
  have f263 := hMF3.1
  refine lv_istore (lv' := [(6, .int r6), (5, .int r3), (0, .ref b), (1, .ref (B + 0)), (2, .ref (B + 26)), (3, .ref (B + 47)), (4, .int (nI i))]) hx hb dL_law_911 hl (by decide) rfl (fun ls hl => ?_)
  refine lv_aload_n hx hb dL_law_913 rfl (lv_at hl 4 rfl) ?_
  refine kl_cVi (C := RX5) (i := 26) (As := []) (rest := []) ⟨hx, hb, hml, hown, hts⟩ (c_X5_thrown l G B _ f263) (cwV 0 hts gL_law_X5_thrown rfl rfl rfl (by decide +kernel) ⟨Nat.le_of_ble_eq_true rfl, Nat.le_of_ble_eq_true rfl⟩) hK hP f263 rfl rfl hl.1 rfl (Nat.le_of_ble_eq_true rfl) dL_law_914 ⟨by show cells + 1 + 0 + 0 ≤ room_1.cells; omega, by show slots + 6 + 0 + 0 ≤ room_1.slots; omega⟩ (fun r9 w7 H locs q8 hP => ?_)
  obtain ⟨hw9, hr9⟩ := q8
  subst hw9
  refine kl_top (z := r3) hr9 ?_
  refine lv_iload hx hb dL_law_917 (lv_at hl 1 rfl) ?_
  refine lv_icmp_eq (tgt := 924) hx hb dL_law_919 (by decide) (fun c919 => ?_) (fun c919 => absurd rfl c919)
  refine lv_iload hx hb dL_law_924 (lv_at hl 1 rfl) ?_
  refine lv_if_ne (tgt := 948) hx hb dL_law_926 (by decide) (fun c926 => ?_) (fun c926 => ?_)
  · refine lv_goto (tgt := 1236) hx hb dL_law_948 (by decide) ?_
    refine W.widen (k := cells + 50) (n := slots + 500) (by omega) (by omega) ?_
    exact kk _ _ _ _ _ _ hI2 hP (lv_sub hl [2, 3, 4, 5, 6] rfl)
  · refine lv_aload_n hx hb dL_law_929 rfl (lv_at hl 5 rfl) ?_
    refine lv_iconst (v := nI 0) hx hb dL_law_930 (by decide) ?_
    refine kl_lald hx hb hK hP f473 (by omega) (by omega) dL_law_931 ?_
    refine lv_iload hx hb dL_law_932 (lv_at hl 0 rfl) ?_
    refine lv_if_eq (tgt := 941) hx hb dL_law_934 (by decide) (fun c934 => ?_) (fun c934 => ?_)
    · refine lv_lconst (v := 0) hx hb dL_law_941 rfl ?_
      refine W.lcmp hx hb dL_law_942 ?_
      refine lv_if_eq (tgt := 948) hx hb dL_law_943 (by decide) (fun c943 => ?_) (fun c943 => absurd (by rw [hout c926]; simp [lg_cmp, c934]) c943)
      refine lv_goto (tgt := 1236) hx hb dL_law_948 (by decide) ?_
      refine W.widen (k := cells + 50) (n := slots + 500) (by omega) (by omega) ?_
      exact kk _ _ _ _ _ _ hI2 hP (lv_sub hl [2, 3, 4, 5, 6] rfl)
    · refine lv_lconst (v := 1) hx hb dL_law_937 rfl ?_
      refine lv_goto (tgt := 942) hx hb dL_law_938 (by decide) ?_
      refine W.lcmp hx hb dL_law_942 ?_
      refine lv_if_eq (tgt := 948) hx hb dL_law_943 (by decide) (fun c943 => ?_) (fun c943 => absurd (by rw [hout c926]; simp [lg_cmp, c934]) c943)
      refine lv_goto (tgt := 1236) hx hb dL_law_948 (by decide) ?_
      refine W.widen (k := cells + 50) (n := slots + 500) (by omega) (by omega) ?_
      exact kk _ _ _ _ _ _ hI2 hP (lv_sub hl [2, 3, 4, 5, 6] rfl)

set_option maxHeartbeats 4000000 in
set_option maxRecDepth 100000 in
theorem law_cell {p : Program} {e : Env} {s : State} {m : MethodId} {below : List Frame} {meth : Method} {c : Code} (l : Launch) (hst : l.stackTraces = false) {b L : Nat} {xs : Nat → Int32} (G : kl_G) {B : Nat} (hx : p.tables.exec = Jvm.exec) (hb : c.code = cL_law) (hml : c.maxLocals = 7) (hown : s.vm.findClass RL = some m.cls) (hts : ∀ w ∈ wsL_law, w.before #[Value.ref b] s = true) (hX : va_X b L xs s s.heap) (hbl : b < s.heap.size) (hbB : b < B) (hK : kl_K G s) (hZ : kl_Z B s s.heap) {Q : State → Prop} {cells slots : Nat} (hcs : cells + 100 ≤ room_1.cells ∧ slots + 3000 ≤ room_1.slots) {w : kl_M} {H : Heap} {locs : List Loc} {ls : Array Slot} {i : Nat} (hi : i + 6 ≤ L) (hL : L ≤ 384) {ec : Int32} {ol : Nat → Int64} (hI : mr_I G B w ec ol) (hP : kl_S G B w s.heap H locs) (hl : lv_has ls 7 [(0, .ref b), (1, .ref (B + 0)), (2, .ref (B + 26)), (3, .ref (B + 47)), (4, .int (nI i))])
    (kk : ∀ (w2 : kl_M) (H2 : Heap) (locs2 : List Loc) (ls2 : Array Slot) (ec2 : Int32) (ol2 : Nat → Int64), mr_I G B w2 ec2 ol2 → kl_S G B w2 s.heap H2 locs2 → lv_has ls2 7 [(0, .ref b), (1, .ref (B + 0)), (2, .ref (B + 26)), (3, .ref (B + 47)), (4, .int (nI i))] → W p l e room_1 s m #[Value.ref b] below meth c H2 locs2 (cells + 50) (slots + 500) Q (F0 m 1236 ls2 [])) :
    W p l e room_1 s m #[Value.ref b] below meth c H locs cells slots Q (F0 m 951 ls []) := by
  obtain ⟨nT, nL, nS, nC, nW, nM, n, rs, cn, wt, T, C, mT, mC, lf, sf, cf, la, lch, lco, lpa, lwy, sa, stb, sco, ca, cwa, cpa, ctb, cln, cwd, ccol, O, D, kR, kO, kD, cw, hJ⟩ := hI
  have hJ2 := hJ
  obtain ⟨⟨dT, dC, gg, k0, k1, k2, k3, k4, k5, k6, k7, k8, k9, k10, k11, k12, k13, k14, k15, k16, k17, k18, k19, k20, k21, k22, k23, k24, k25⟩, hru, ⟨on, hi9, oO, oD, gn, pl, hMF⟩, k47, ⟨⟨m1, m2, m3, m4, m5, m6⟩, hcn2, hwt⟩, hRC, hRW, hW, hM⟩ := hJ2
  have hcn4 : ∀ j, j < nT → cn j ≤ 4 := fun j hj => (hcn2 j hj).2
  have hu := hJ.uniq
  have hpar := hRC.par
  have hn24 : n ≤ 24 := hRW.2.2.2.2
  have hrp := hRC.2.1
  have hrl3 : ∀ j, j < nL → lch j ≠ -1 ∧ lpa j ≠ -1 ∧ lco j < 4 := fun j hj => ⟨(hrp.1 j hj).1, (hrp.1 j hj).2.1, (hrp.1 j hj).2.2.1.2⟩
  have hkR : ∀ j, j < nM → kR j ≤ 24 := fun j hj => (hM j hj).2.2.2.2
  refine lv_aload_n hx hb dL_law_951 rfl (lv_at hl 1 rfl) ?_
  refine lv_aload_n hx hb dL_law_952 rfl (lv_at hl 0 rfl) ?_
  refine lv_iload hx hb dL_law_953 (lv_at hl 4 rfl) ?_
  refine lv_iconst (v := nI 1) hx hb dL_law_955 (by decide) ?_
  refine lv_iadd hx hb dL_law_956 ?_
  refine kl_top (z := nI (i + 1)) (by first | exact nI_add _ _ | (rw [nI_add]; first | rfl | (congr 1; omega))) ?_
  refine kl_sld hx hb hX hbl hbB hP (by omega) hL dL_law_957 ?_
  refine lv_aload_n hx hb dL_law_958 rfl (lv_at hl 0 rfl) ?_
  refine lv_iload hx hb dL_law_959 (lv_at hl 4 rfl) ?_
  refine lv_iconst (v := nI 2) hx hb dL_law_961 (by decide) ?_
  refine lv_iadd hx hb dL_law_962 ?_
  refine kl_top (z := nI (i + 2)) (by first | exact nI_add _ _ | (rw [nI_add]; first | rfl | (congr 1; omega))) ?_
  refine kl_sld hx hb hX hbl hbB hP (by omega) hL dL_law_963 ?_
  refine lv_aload_n hx hb dL_law_964 rfl (lv_at hl 0 rfl) ?_
  refine lv_iload hx hb dL_law_965 (lv_at hl 4 rfl) ?_
  refine lv_iconst (v := nI 3) hx hb dL_law_967 (by decide) ?_
  refine lv_iadd hx hb dL_law_968 ?_
  refine kl_top (z := nI (i + 3)) (by first | exact nI_add _ _ | (rw [nI_add]; first | rfl | (congr 1; omega))) ?_
  refine kl_sld hx hb hX hbl hbB hP (by omega) hL dL_law_969 ?_
  refine lv_aload_n hx hb dL_law_970 rfl (lv_at hl 3 rfl) ?_
  refine klx_cSXi (As := [.ref (B + 0), .int (xs (i + 1)), .int (xs (i + 2)), .int (xs (i + 3)), .ref (B + 47)]) (rest := []) ⟨hx, hb, hml, hown, hts⟩ (c_L_cell l hst G B _ (xs (i + 1)) (xs (i + 2)) (xs (i + 3)) k0 k1 k6 k7 k8 k47 m1 hcn4) (vx_cwSW 5 hts gL_law_L_cell rfl rfl rfl (by decide +kernel) ⟨Nat.le_of_ble_eq_true rfl, Nat.le_of_ble_eq_true rfl⟩) hK hZ hP rfl hl.1 rfl (Nat.le_of_ble_eq_true rfl) dL_law_971 ⟨by show cells + 2 ≤ room_1.cells; omega, by show slots + 12 ≤ room_1.slots; omega⟩ (fun _ _ _ _ _ _ hpx _ _ _ _ => hpx.elim) (fun r3 w1 H locs q2 hP => ?_)
  have hMF1 := opm_cell (xs (i + 1)) (xs (i + 2)) (xs (i + 3)) hMF q2
  obtain ⟨q26, q27, q28, q29, q30, q31, q32, q33, q34, q35, q36, q37, q38, q39, q40, q41, q42, q43, q44, q45, q46⟩ := hMF1
  refine lv_istore (lv' := [(5, .int r3), (0, .ref b), (1, .ref (B + 0)), (2, .ref (B + 26)), (3, .ref (B + 47)), (4, .int (nI i))]) hx hb dL_law_974 hl (by decide) rfl (fun ls hl => ?_)
  refine lv_aload_n hx hb dL_law_976 rfl (lv_at hl 3 rfl) ?_
  refine lv_aload_n hx hb dL_law_977 rfl (lv_at hl 1 rfl) ?_
  refine lv_iload hx hb dL_law_978 (lv_at hl 5 rfl) ?_
  refine lv_iconst (v := nI 1) hx hb dL_law_980 (by decide) ?_
  refine lv_iadd hx hb dL_law_981 ?_
  refine kl_top (z := nI (i + 1)) (by first | exact nI_add _ _ | (rw [nI_add]; first | rfl | (congr 1; omega))) ?_
  refine kl_sld hx hb hX hbl hbB hP (by omega) hL dL_law_982 ?_
  refine lv_aload_n hx hb dL_law_983 rfl (lv_at hl 1 rfl) ?_
  refine lv_iload hx hb dL_law_984 (lv_at hl 5 rfl) ?_
  refine lv_iconst (v := nI 2) hx hb dL_law_986 (by decide) ?_
  refine lv_iadd hx hb dL_law_987 ?_
  refine kl_top (z := nI (i + 2)) (by first | exact nI_add _ _ | (rw [nI_add]; first | rfl | (congr 1; omega))) ?_
  refine kl_sld hx hb hX hbl hbB hP (by omega) hL dL_law_988 ?_
  refine lv_aload_n hx hb dL_law_989 rfl (lv_at hl 1 rfl) ?_
  refine lv_iload hx hb dL_law_990 (lv_at hl 5 rfl) ?_
  refine lv_iconst (v := nI 3) hx hb dL_law_992 (by decide) ?_
  refine lv_iadd hx hb dL_law_993 ?_
  refine kl_top (z := nI (i + 3)) (by first | exact nI_add _ _ | (rw [nI_add]; first | rfl | (congr 1; omega))) ?_
  refine kl_sld hx hb hX hbl hbB hP (by omega) hL dL_law_994 ?_
  refine kl_cVi (C := RX5) (i := 26) (As := [.int (xs (i + 1)), .int (xs (i + 2)), .int (xs (i + 3))]) (rest := []) ⟨hx, hb, hml, hown, hts⟩ (c_X5_cell l G B _ (xs (i + 1)) (xs (i + 2)) (xs (i + 3)) q26 q27 q28 q29 m1 hn24 hcn4) (cwV 3 hts gL_law_X5_cell rfl rfl rfl (by decide +kernel) ⟨Nat.le_of_ble_eq_true rfl, Nat.le_of_ble_eq_true rfl⟩) hK hP q26 rfl rfl hl.1 rfl (Nat.le_of_ble_eq_true rfl) dL_law_995 ⟨by show cells + 2 + 0 ≤ room_1.cells; omega, by show slots + 12 + 0 ≤ room_1.slots; omega⟩ (fun r6 w4 H locs q5 hP => ?_)
  obtain ⟨ol3, hI2, hout⟩ := op_cell (xs (i + 1)) (xs (i + 2)) (xs (i + 3)) hJ hMF q2 q5
  have hI3 := hI2
  obtain ⟨nT3, nL3, nS3, nC3, nW3, nM3, n3, rs3, cn3, wt3, T3, C3, mT3, mC3, lf3, sf3, cf3, la3, lch3, lco3, lpa3, lwy3, sa3, stb3, sco3, ca3, cwa3, cpa3, ctb3, cln3, cwd3, ccol3, O3, D3, kR3, kO3, kD3, cw3, hJ3⟩ := hI3
  obtain ⟨-, -, ⟨on3, hi3, oO3, oD3, gn3, pl3, hMF3⟩, f473, -⟩ := hJ3
  have f263 := hMF3.1
  refine lv_istore (lv' := [(6, .int r6), (5, .int r3), (0, .ref b), (1, .ref (B + 0)), (2, .ref (B + 26)), (3, .ref (B + 47)), (4, .int (nI i))]) hx hb dL_law_998 hl (by decide) rfl (fun ls hl => ?_)
  refine lv_aload_n hx hb dL_law_1000 rfl (lv_at hl 4 rfl) ?_
  refine kl_cVi (C := RX5) (i := 26) (As := []) (rest := []) ⟨hx, hb, hml, hown, hts⟩ (c_X5_thrown l G B _ f263) (cwV 0 hts gL_law_X5_thrown rfl rfl rfl (by decide +kernel) ⟨Nat.le_of_ble_eq_true rfl, Nat.le_of_ble_eq_true rfl⟩) hK hP f263 rfl rfl hl.1 rfl (Nat.le_of_ble_eq_true rfl) dL_law_1001 ⟨by show cells + 2 + 0 + 0 ≤ room_1.cells; omega, by show slots + 12 + 0 + 0 ≤ room_1.slots; omega⟩ (fun r9 w7 H locs q8 hP => ?_)
  obtain ⟨hw9, hr9⟩ := q8
  subst hw9
  refine kl_top (z := r3) hr9 ?_
  refine lv_iload hx hb dL_law_1004 (lv_at hl 1 rfl) ?_
  refine lv_icmp_eq (tgt := 1011) hx hb dL_law_1006 (by decide) (fun c1006 => ?_) (fun c1006 => absurd rfl c1006)
  refine lv_iload hx hb dL_law_1011 (lv_at hl 1 rfl) ?_
  refine lv_if_ne (tgt := 1028) hx hb dL_law_1013 (by decide) (fun c1013 => ?_) (fun c1013 => ?_)
  · refine lv_goto (tgt := 1236) hx hb dL_law_1028 (by decide) ?_
    refine W.widen (k := cells + 50) (n := slots + 500) (by omega) (by omega) ?_
    exact kk _ _ _ _ _ _ hI2 hP (lv_sub hl [2, 3, 4, 5, 6] rfl)
  · refine lv_aload_n hx hb dL_law_1016 rfl (lv_at hl 5 rfl) ?_
    refine lv_iconst (v := nI 0) hx hb dL_law_1017 (by decide) ?_
    refine kl_lald hx hb hK hP f473 (by omega) (by omega) dL_law_1018 ?_
    refine lv_iload hx hb dL_law_1019 (lv_at hl 0 rfl) ?_
    refine lv_i2l hx hb dL_law_1021 rfl ?_
    refine W.lcmp hx hb dL_law_1022 ?_
    refine lv_if_eq (tgt := 1028) hx hb dL_law_1023 (by decide) (fun c1023 => ?_) (fun c1023 => absurd (by rw [hout c1013]; simp [lg_cmp]) c1023)
    refine lv_goto (tgt := 1236) hx hb dL_law_1028 (by decide) ?_
    refine W.widen (k := cells + 50) (n := slots + 500) (by omega) (by omega) ?_
    exact kk _ _ _ _ _ _ hI2 hP (lv_sub hl [2, 3, 4, 5, 6] rfl)

set_option maxHeartbeats 4000000 in
set_option maxRecDepth 100000 in
theorem law_key {p : Program} {e : Env} {s : State} {m : MethodId} {below : List Frame} {meth : Method} {c : Code} (l : Launch) (hst : l.stackTraces = false) {b L : Nat} {xs : Nat → Int32} (G : kl_G) {B : Nat} (hx : p.tables.exec = Jvm.exec) (hb : c.code = cL_law) (hml : c.maxLocals = 7) (hown : s.vm.findClass RL = some m.cls) (hts : ∀ w ∈ wsL_law, w.before #[Value.ref b] s = true) (hX : va_X b L xs s s.heap) (hbl : b < s.heap.size) (hbB : b < B) (hK : kl_K G s) (hZ : kl_Z B s s.heap) {Q : State → Prop} {cells slots : Nat} (hcs : cells + 100 ≤ room_1.cells ∧ slots + 3000 ≤ room_1.slots) {w : kl_M} {H : Heap} {locs : List Loc} {ls : Array Slot} {i : Nat} (hi : i + 6 ≤ L) (hL : L ≤ 384) {ec : Int32} {ol : Nat → Int64} (hI : mr_I G B w ec ol) (hP : kl_S G B w s.heap H locs) (hl : lv_has ls 7 [(0, .ref b), (1, .ref (B + 0)), (2, .ref (B + 26)), (3, .ref (B + 47)), (4, .int (nI i))])
    (kk : ∀ (w2 : kl_M) (H2 : Heap) (locs2 : List Loc) (ls2 : Array Slot) (ec2 : Int32) (ol2 : Nat → Int64), mr_I G B w2 ec2 ol2 → kl_S G B w2 s.heap H2 locs2 → lv_has ls2 7 [(0, .ref b), (1, .ref (B + 0)), (2, .ref (B + 26)), (3, .ref (B + 47)), (4, .int (nI i))] → W p l e room_1 s m #[Value.ref b] below meth c H2 locs2 (cells + 50) (slots + 500) Q (F0 m 1236 ls2 [])) :
    W p l e room_1 s m #[Value.ref b] below meth c H locs cells slots Q (F0 m 1031 ls []) := by
  obtain ⟨nT, nL, nS, nC, nW, nM, n, rs, cn, wt, T, C, mT, mC, lf, sf, cf, la, lch, lco, lpa, lwy, sa, stb, sco, ca, cwa, cpa, ctb, cln, cwd, ccol, O, D, kR, kO, kD, cw, hJ⟩ := hI
  have hJ2 := hJ
  obtain ⟨⟨dT, dC, gg, k0, k1, k2, k3, k4, k5, k6, k7, k8, k9, k10, k11, k12, k13, k14, k15, k16, k17, k18, k19, k20, k21, k22, k23, k24, k25⟩, hru, ⟨on, hi9, oO, oD, gn, pl, hMF⟩, k47, ⟨⟨m1, m2, m3, m4, m5, m6⟩, hcn2, hwt⟩, hRC, hRW, hW, hM⟩ := hJ2
  have hcn4 : ∀ j, j < nT → cn j ≤ 4 := fun j hj => (hcn2 j hj).2
  have hu := hJ.uniq
  have hpar := hRC.par
  have hn24 : n ≤ 24 := hRW.2.2.2.2
  have hrp := hRC.2.1
  have hrl3 : ∀ j, j < nL → lch j ≠ -1 ∧ lpa j ≠ -1 ∧ lco j < 4 := fun j hj => ⟨(hrp.1 j hj).1, (hrp.1 j hj).2.1, (hrp.1 j hj).2.2.1.2⟩
  have hkR : ∀ j, j < nM → kR j ≤ 24 := fun j hj => (hM j hj).2.2.2.2
  refine lv_aload_n hx hb dL_law_1031 rfl (lv_at hl 1 rfl) ?_
  refine lv_aload_n hx hb dL_law_1032 rfl (lv_at hl 0 rfl) ?_
  refine lv_iload hx hb dL_law_1033 (lv_at hl 4 rfl) ?_
  refine lv_iconst (v := nI 1) hx hb dL_law_1035 (by decide) ?_
  refine lv_iadd hx hb dL_law_1036 ?_
  refine kl_top (z := nI (i + 1)) (by first | exact nI_add _ _ | (rw [nI_add]; first | rfl | (congr 1; omega))) ?_
  refine kl_sld hx hb hX hbl hbB hP (by omega) hL dL_law_1037 ?_
  refine lv_aload_n hx hb dL_law_1038 rfl (lv_at hl 0 rfl) ?_
  refine lv_iload hx hb dL_law_1039 (lv_at hl 4 rfl) ?_
  refine lv_iconst (v := nI 2) hx hb dL_law_1041 (by decide) ?_
  refine lv_iadd hx hb dL_law_1042 ?_
  refine kl_top (z := nI (i + 2)) (by first | exact nI_add _ _ | (rw [nI_add]; first | rfl | (congr 1; omega))) ?_
  refine kl_sld hx hb hX hbl hbB hP (by omega) hL dL_law_1043 ?_
  refine lv_aload_n hx hb dL_law_1044 rfl (lv_at hl 3 rfl) ?_
  refine klx_cSXi (As := [.ref (B + 0), .int (xs (i + 1)), .int (xs (i + 2)), .ref (B + 47)]) (rest := []) ⟨hx, hb, hml, hown, hts⟩ (c_L_key l hst G B _ (xs (i + 1)) (xs (i + 2)) k0 k6 k7 k8 k47 m1) (vx_cwSW 4 hts gL_law_L_key rfl rfl rfl (by decide +kernel) ⟨Nat.le_of_ble_eq_true rfl, Nat.le_of_ble_eq_true rfl⟩) hK hZ hP rfl hl.1 rfl (Nat.le_of_ble_eq_true rfl) dL_law_1045 ⟨by show cells + 2 ≤ room_1.cells; omega, by show slots + 12 ≤ room_1.slots; omega⟩ (fun _ _ _ _ _ _ hpx _ _ _ _ => hpx.elim) (fun r3 w1 H locs q2 hP => ?_)
  have hMF1 := opm_key (xs (i + 1)) (xs (i + 2)) hMF q2
  obtain ⟨q26, q27, q28, q29, q30, q31, q32, q33, q34, q35, q36, q37, q38, q39, q40, q41, q42, q43, q44, q45, q46⟩ := hMF1
  refine lv_istore (lv' := [(5, .int r3), (0, .ref b), (1, .ref (B + 0)), (2, .ref (B + 26)), (3, .ref (B + 47)), (4, .int (nI i))]) hx hb dL_law_1048 hl (by decide) rfl (fun ls hl => ?_)
  refine lv_aload_n hx hb dL_law_1050 rfl (lv_at hl 3 rfl) ?_
  refine lv_aload_n hx hb dL_law_1051 rfl (lv_at hl 1 rfl) ?_
  refine lv_iload hx hb dL_law_1052 (lv_at hl 5 rfl) ?_
  refine lv_iconst (v := nI 1) hx hb dL_law_1054 (by decide) ?_
  refine lv_iadd hx hb dL_law_1055 ?_
  refine kl_top (z := nI (i + 1)) (by first | exact nI_add _ _ | (rw [nI_add]; first | rfl | (congr 1; omega))) ?_
  refine kl_sld hx hb hX hbl hbB hP (by omega) hL dL_law_1056 ?_
  refine lv_aload_n hx hb dL_law_1057 rfl (lv_at hl 1 rfl) ?_
  refine lv_iload hx hb dL_law_1058 (lv_at hl 5 rfl) ?_
  refine lv_iconst (v := nI 2) hx hb dL_law_1060 (by decide) ?_
  refine lv_iadd hx hb dL_law_1061 ?_
  refine kl_top (z := nI (i + 2)) (by first | exact nI_add _ _ | (rw [nI_add]; first | rfl | (congr 1; omega))) ?_
  refine kl_sld hx hb hX hbl hbB hP (by omega) hL dL_law_1062 ?_
  refine kl_cVi (C := RX5) (i := 26) (As := [.int (xs (i + 1)), .int (xs (i + 2))]) (rest := []) ⟨hx, hb, hml, hown, hts⟩ (c_X5_key l G B _ (xs (i + 1)) (xs (i + 2)) q26 q28 q29 m1 hn24) (cwV 2 hts gL_law_X5_key rfl rfl rfl (by decide +kernel) ⟨Nat.le_of_ble_eq_true rfl, Nat.le_of_ble_eq_true rfl⟩) hK hP q26 rfl rfl hl.1 rfl (Nat.le_of_ble_eq_true rfl) dL_law_1063 ⟨by show cells + 2 + 0 ≤ room_1.cells; omega, by show slots + 12 + 0 ≤ room_1.slots; omega⟩ (fun r6 w4 H locs q5 hP => ?_)
  obtain ⟨ol3, hI2, hout⟩ := op_key (xs (i + 1)) (xs (i + 2)) hJ hMF q2 q5
  have hI3 := hI2
  obtain ⟨nT3, nL3, nS3, nC3, nW3, nM3, n3, rs3, cn3, wt3, T3, C3, mT3, mC3, lf3, sf3, cf3, la3, lch3, lco3, lpa3, lwy3, sa3, stb3, sco3, ca3, cwa3, cpa3, ctb3, cln3, cwd3, ccol3, O3, D3, kR3, kO3, kD3, cw3, hJ3⟩ := hI3
  obtain ⟨-, -, ⟨on3, hi3, oO3, oD3, gn3, pl3, hMF3⟩, f473, -⟩ := hJ3
  have f263 := hMF3.1
  refine lv_istore (lv' := [(6, .int r6), (5, .int r3), (0, .ref b), (1, .ref (B + 0)), (2, .ref (B + 26)), (3, .ref (B + 47)), (4, .int (nI i))]) hx hb dL_law_1066 hl (by decide) rfl (fun ls hl => ?_)
  refine lv_aload_n hx hb dL_law_1068 rfl (lv_at hl 4 rfl) ?_
  refine kl_cVi (C := RX5) (i := 26) (As := []) (rest := []) ⟨hx, hb, hml, hown, hts⟩ (c_X5_thrown l G B _ f263) (cwV 0 hts gL_law_X5_thrown rfl rfl rfl (by decide +kernel) ⟨Nat.le_of_ble_eq_true rfl, Nat.le_of_ble_eq_true rfl⟩) hK hP f263 rfl rfl hl.1 rfl (Nat.le_of_ble_eq_true rfl) dL_law_1069 ⟨by show cells + 2 + 0 + 0 ≤ room_1.cells; omega, by show slots + 12 + 0 + 0 ≤ room_1.slots; omega⟩ (fun r9 w7 H locs q8 hP => ?_)
  obtain ⟨hw9, hr9⟩ := q8
  subst hw9
  refine kl_top (z := r3) hr9 ?_
  refine lv_iload hx hb dL_law_1072 (lv_at hl 1 rfl) ?_
  refine lv_icmp_eq (tgt := 1079) hx hb dL_law_1074 (by decide) (fun c1074 => ?_) (fun c1074 => absurd rfl c1074)
  refine lv_iload hx hb dL_law_1079 (lv_at hl 1 rfl) ?_
  refine lv_if_ne (tgt := 1096) hx hb dL_law_1081 (by decide) (fun c1081 => ?_) (fun c1081 => ?_)
  · refine lv_goto (tgt := 1236) hx hb dL_law_1096 (by decide) ?_
    refine W.widen (k := cells + 50) (n := slots + 500) (by omega) (by omega) ?_
    exact kk _ _ _ _ _ _ hI2 hP (lv_sub hl [2, 3, 4, 5, 6] rfl)
  · refine lv_aload_n hx hb dL_law_1084 rfl (lv_at hl 5 rfl) ?_
    refine lv_iconst (v := nI 0) hx hb dL_law_1085 (by decide) ?_
    refine kl_lald hx hb hK hP f473 (by omega) (by omega) dL_law_1086 ?_
    refine lv_iload hx hb dL_law_1087 (lv_at hl 0 rfl) ?_
    refine lv_i2l hx hb dL_law_1089 rfl ?_
    refine W.lcmp hx hb dL_law_1090 ?_
    refine lv_if_eq (tgt := 1096) hx hb dL_law_1091 (by decide) (fun c1091 => ?_) (fun c1091 => absurd (by rw [hout c1081]; simp [lg_cmp]) c1091)
    refine lv_goto (tgt := 1236) hx hb dL_law_1096 (by decide) ?_
    refine W.widen (k := cells + 50) (n := slots + 500) (by omega) (by omega) ?_
    exact kk _ _ _ _ _ _ hI2 hP (lv_sub hl [2, 3, 4, 5, 6] rfl)

set_option maxHeartbeats 4000000 in
set_option maxRecDepth 100000 in
theorem law_count {p : Program} {e : Env} {s : State} {m : MethodId} {below : List Frame} {meth : Method} {c : Code} (l : Launch) (hst : l.stackTraces = false) {b L : Nat} {xs : Nat → Int32} (G : kl_G) {B : Nat} (hx : p.tables.exec = Jvm.exec) (hb : c.code = cL_law) (hml : c.maxLocals = 7) (hown : s.vm.findClass RL = some m.cls) (hts : ∀ w ∈ wsL_law, w.before #[Value.ref b] s = true) (hX : va_X b L xs s s.heap) (hbl : b < s.heap.size) (hbB : b < B) (hK : kl_K G s) (hZ : kl_Z B s s.heap) {Q : State → Prop} {cells slots : Nat} (hcs : cells + 100 ≤ room_1.cells ∧ slots + 3000 ≤ room_1.slots) {w : kl_M} {H : Heap} {locs : List Loc} {ls : Array Slot} {i : Nat} (hi : i + 6 ≤ L) (hL : L ≤ 384) {ec : Int32} {ol : Nat → Int64} (hI : mr_I G B w ec ol) (hP : kl_S G B w s.heap H locs) (hl : lv_has ls 7 [(0, .ref b), (1, .ref (B + 0)), (2, .ref (B + 26)), (3, .ref (B + 47)), (4, .int (nI i))])
    (kk : ∀ (w2 : kl_M) (H2 : Heap) (locs2 : List Loc) (ls2 : Array Slot) (ec2 : Int32) (ol2 : Nat → Int64), mr_I G B w2 ec2 ol2 → kl_S G B w2 s.heap H2 locs2 → lv_has ls2 7 [(0, .ref b), (1, .ref (B + 0)), (2, .ref (B + 26)), (3, .ref (B + 47)), (4, .int (nI i))] → W p l e room_1 s m #[Value.ref b] below meth c H2 locs2 (cells + 50) (slots + 500) Q (F0 m 1236 ls2 [])) :
    W p l e room_1 s m #[Value.ref b] below meth c H locs cells slots Q (F0 m 1099 ls []) := by
  obtain ⟨nT, nL, nS, nC, nW, nM, n, rs, cn, wt, T, C, mT, mC, lf, sf, cf, la, lch, lco, lpa, lwy, sa, stb, sco, ca, cwa, cpa, ctb, cln, cwd, ccol, O, D, kR, kO, kD, cw, hJ⟩ := hI
  have hJ2 := hJ
  obtain ⟨⟨dT, dC, gg, k0, k1, k2, k3, k4, k5, k6, k7, k8, k9, k10, k11, k12, k13, k14, k15, k16, k17, k18, k19, k20, k21, k22, k23, k24, k25⟩, hru, ⟨on, hi9, oO, oD, gn, pl, hMF⟩, k47, ⟨⟨m1, m2, m3, m4, m5, m6⟩, hcn2, hwt⟩, hRC, hRW, hW, hM⟩ := hJ2
  have hcn4 : ∀ j, j < nT → cn j ≤ 4 := fun j hj => (hcn2 j hj).2
  have hu := hJ.uniq
  have hpar := hRC.par
  have hn24 : n ≤ 24 := hRW.2.2.2.2
  have hrp := hRC.2.1
  have hrl3 : ∀ j, j < nL → lch j ≠ -1 ∧ lpa j ≠ -1 ∧ lco j < 4 := fun j hj => ⟨(hrp.1 j hj).1, (hrp.1 j hj).2.1, (hrp.1 j hj).2.2.1.2⟩
  have hkR : ∀ j, j < nM → kR j ≤ 24 := fun j hj => (hM j hj).2.2.2.2
  refine lv_aload_n hx hb dL_law_1099 rfl (lv_at hl 1 rfl) ?_
  refine lv_aload_n hx hb dL_law_1100 rfl (lv_at hl 0 rfl) ?_
  refine lv_iload hx hb dL_law_1101 (lv_at hl 4 rfl) ?_
  refine lv_iconst (v := nI 1) hx hb dL_law_1103 (by decide) ?_
  refine lv_iadd hx hb dL_law_1104 ?_
  refine kl_top (z := nI (i + 1)) (by first | exact nI_add _ _ | (rw [nI_add]; first | rfl | (congr 1; omega))) ?_
  refine kl_sld hx hb hX hbl hbB hP (by omega) hL dL_law_1105 ?_
  refine lv_aload_n hx hb dL_law_1106 rfl (lv_at hl 3 rfl) ?_
  refine klx_cSXi (As := [.ref (B + 0), .int (xs (i + 1)), .ref (B + 47)]) (rest := []) ⟨hx, hb, hml, hown, hts⟩ (c_L_count l hst G B _ (xs (i + 1)) k0 k6 k7 k8 k47 m1) (vx_cwSW 3 hts gL_law_L_count rfl rfl rfl (by decide +kernel) ⟨Nat.le_of_ble_eq_true rfl, Nat.le_of_ble_eq_true rfl⟩) hK hZ hP rfl hl.1 rfl (Nat.le_of_ble_eq_true rfl) dL_law_1107 ⟨by show cells + 1 ≤ room_1.cells; omega, by show slots + 6 ≤ room_1.slots; omega⟩ (fun _ _ _ _ _ _ hpx _ _ _ _ => hpx.elim) (fun r3 w1 H locs q2 hP => ?_)
  have hMF1 := opm_count (xs (i + 1)) hMF q2
  obtain ⟨q26, q27, q28, q29, q30, q31, q32, q33, q34, q35, q36, q37, q38, q39, q40, q41, q42, q43, q44, q45, q46⟩ := hMF1
  refine lv_istore (lv' := [(5, .int r3), (0, .ref b), (1, .ref (B + 0)), (2, .ref (B + 26)), (3, .ref (B + 47)), (4, .int (nI i))]) hx hb dL_law_1110 hl (by decide) rfl (fun ls hl => ?_)
  refine lv_aload_n hx hb dL_law_1112 rfl (lv_at hl 3 rfl) ?_
  refine lv_aload_n hx hb dL_law_1113 rfl (lv_at hl 1 rfl) ?_
  refine lv_iload hx hb dL_law_1114 (lv_at hl 5 rfl) ?_
  refine lv_iconst (v := nI 1) hx hb dL_law_1116 (by decide) ?_
  refine lv_iadd hx hb dL_law_1117 ?_
  refine kl_top (z := nI (i + 1)) (by first | exact nI_add _ _ | (rw [nI_add]; first | rfl | (congr 1; omega))) ?_
  refine kl_sld hx hb hX hbl hbB hP (by omega) hL dL_law_1118 ?_
  refine kl_cVi (C := RX5) (i := 26) (As := [.int (xs (i + 1))]) (rest := []) ⟨hx, hb, hml, hown, hts⟩ (c_X5_count l G B _ (xs (i + 1)) q26 q28 m1 hn24) (cwV 1 hts gL_law_X5_count rfl rfl rfl (by decide +kernel) ⟨Nat.le_of_ble_eq_true rfl, Nat.le_of_ble_eq_true rfl⟩) hK hP q26 rfl rfl hl.1 rfl (Nat.le_of_ble_eq_true rfl) dL_law_1119 ⟨by show cells + 1 + 0 ≤ room_1.cells; omega, by show slots + 6 + 0 ≤ room_1.slots; omega⟩ (fun r6 w4 H locs q5 hP => ?_)
  obtain ⟨ol3, hI2, hout⟩ := op_count (xs (i + 1)) hJ hMF q2 q5
  have hI3 := hI2
  obtain ⟨nT3, nL3, nS3, nC3, nW3, nM3, n3, rs3, cn3, wt3, T3, C3, mT3, mC3, lf3, sf3, cf3, la3, lch3, lco3, lpa3, lwy3, sa3, stb3, sco3, ca3, cwa3, cpa3, ctb3, cln3, cwd3, ccol3, O3, D3, kR3, kO3, kD3, cw3, hJ3⟩ := hI3
  obtain ⟨-, -, ⟨on3, hi3, oO3, oD3, gn3, pl3, hMF3⟩, f473, -⟩ := hJ3
  have f263 := hMF3.1
  refine lv_istore (lv' := [(6, .int r6), (5, .int r3), (0, .ref b), (1, .ref (B + 0)), (2, .ref (B + 26)), (3, .ref (B + 47)), (4, .int (nI i))]) hx hb dL_law_1122 hl (by decide) rfl (fun ls hl => ?_)
  refine lv_aload_n hx hb dL_law_1124 rfl (lv_at hl 4 rfl) ?_
  refine kl_cVi (C := RX5) (i := 26) (As := []) (rest := []) ⟨hx, hb, hml, hown, hts⟩ (c_X5_thrown l G B _ f263) (cwV 0 hts gL_law_X5_thrown rfl rfl rfl (by decide +kernel) ⟨Nat.le_of_ble_eq_true rfl, Nat.le_of_ble_eq_true rfl⟩) hK hP f263 rfl rfl hl.1 rfl (Nat.le_of_ble_eq_true rfl) dL_law_1125 ⟨by show cells + 1 + 0 + 0 ≤ room_1.cells; omega, by show slots + 6 + 0 + 0 ≤ room_1.slots; omega⟩ (fun r9 w7 H locs q8 hP => ?_)
  obtain ⟨hw9, hr9⟩ := q8
  subst hw9
  refine kl_top (z := r3) hr9 ?_
  refine lv_iload hx hb dL_law_1128 (lv_at hl 1 rfl) ?_
  refine lv_icmp_eq (tgt := 1135) hx hb dL_law_1130 (by decide) (fun c1130 => ?_) (fun c1130 => absurd rfl c1130)
  refine lv_iload hx hb dL_law_1135 (lv_at hl 1 rfl) ?_
  refine lv_if_ne (tgt := 1152) hx hb dL_law_1137 (by decide) (fun c1137 => ?_) (fun c1137 => ?_)
  · refine lv_goto (tgt := 1236) hx hb dL_law_1152 (by decide) ?_
    refine W.widen (k := cells + 50) (n := slots + 500) (by omega) (by omega) ?_
    exact kk _ _ _ _ _ _ hI2 hP (lv_sub hl [2, 3, 4, 5, 6] rfl)
  · refine lv_aload_n hx hb dL_law_1140 rfl (lv_at hl 5 rfl) ?_
    refine lv_iconst (v := nI 0) hx hb dL_law_1141 (by decide) ?_
    refine kl_lald hx hb hK hP f473 (by omega) (by omega) dL_law_1142 ?_
    refine lv_iload hx hb dL_law_1143 (lv_at hl 0 rfl) ?_
    refine lv_i2l hx hb dL_law_1145 rfl ?_
    refine W.lcmp hx hb dL_law_1146 ?_
    refine lv_if_eq (tgt := 1152) hx hb dL_law_1147 (by decide) (fun c1147 => ?_) (fun c1147 => absurd (by rw [hout c1137]; simp [lg_cmp]) c1147)
    refine lv_goto (tgt := 1236) hx hb dL_law_1152 (by decide) ?_
    refine W.widen (k := cells + 50) (n := slots + 500) (by omega) (by omega) ?_
    exact kk _ _ _ _ _ _ hI2 hP (lv_sub hl [2, 3, 4, 5, 6] rfl)

set_option maxHeartbeats 4000000 in
set_option maxRecDepth 100000 in
theorem law_referring {p : Program} {e : Env} {s : State} {m : MethodId} {below : List Frame} {meth : Method} {c : Code} (l : Launch) (hst : l.stackTraces = false) {b L : Nat} {xs : Nat → Int32} (G : kl_G) {B : Nat} (hx : p.tables.exec = Jvm.exec) (hb : c.code = cL_law) (hml : c.maxLocals = 7) (hown : s.vm.findClass RL = some m.cls) (hts : ∀ w ∈ wsL_law, w.before #[Value.ref b] s = true) (hX : va_X b L xs s s.heap) (hbl : b < s.heap.size) (hbB : b < B) (hK : kl_K G s) (hZ : kl_Z B s s.heap) {Q : State → Prop} {cells slots : Nat} (hcs : cells + 100 ≤ room_1.cells ∧ slots + 3000 ≤ room_1.slots) {w : kl_M} {H : Heap} {locs : List Loc} {ls : Array Slot} {i : Nat} (hi : i + 6 ≤ L) (hL : L ≤ 384) {ec : Int32} {ol : Nat → Int64} (hI : mr_I G B w ec ol) (hP : kl_S G B w s.heap H locs) (hl : lv_has ls 7 [(0, .ref b), (1, .ref (B + 0)), (2, .ref (B + 26)), (3, .ref (B + 47)), (4, .int (nI i))])
    (kk : ∀ (w2 : kl_M) (H2 : Heap) (locs2 : List Loc) (ls2 : Array Slot) (ec2 : Int32) (ol2 : Nat → Int64), mr_I G B w2 ec2 ol2 → kl_S G B w2 s.heap H2 locs2 → lv_has ls2 7 [(0, .ref b), (1, .ref (B + 0)), (2, .ref (B + 26)), (3, .ref (B + 47)), (4, .int (nI i))] → W p l e room_1 s m #[Value.ref b] below meth c H2 locs2 (cells + 50) (slots + 500) Q (F0 m 1236 ls2 [])) :
    W p l e room_1 s m #[Value.ref b] below meth c H locs cells slots Q (F0 m 1155 ls []) := by
  obtain ⟨nT, nL, nS, nC, nW, nM, n, rs, cn, wt, T, C, mT, mC, lf, sf, cf, la, lch, lco, lpa, lwy, sa, stb, sco, ca, cwa, cpa, ctb, cln, cwd, ccol, O, D, kR, kO, kD, cw, hJ⟩ := hI
  have hJ2 := hJ
  obtain ⟨⟨dT, dC, gg, k0, k1, k2, k3, k4, k5, k6, k7, k8, k9, k10, k11, k12, k13, k14, k15, k16, k17, k18, k19, k20, k21, k22, k23, k24, k25⟩, hru, ⟨on, hi9, oO, oD, gn, pl, hMF⟩, k47, ⟨⟨m1, m2, m3, m4, m5, m6⟩, hcn2, hwt⟩, hRC, hRW, hW, hM⟩ := hJ2
  have hcn4 : ∀ j, j < nT → cn j ≤ 4 := fun j hj => (hcn2 j hj).2
  have hu := hJ.uniq
  have hpar := hRC.par
  have hn24 : n ≤ 24 := hRW.2.2.2.2
  have hrp := hRC.2.1
  have hrl3 : ∀ j, j < nL → lch j ≠ -1 ∧ lpa j ≠ -1 ∧ lco j < 4 := fun j hj => ⟨(hrp.1 j hj).1, (hrp.1 j hj).2.1, (hrp.1 j hj).2.2.1.2⟩
  have hkR : ∀ j, j < nM → kR j ≤ 24 := fun j hj => (hM j hj).2.2.2.2
  refine lv_aload_n hx hb dL_law_1155 rfl (lv_at hl 1 rfl) ?_
  refine lv_aload_n hx hb dL_law_1156 rfl (lv_at hl 0 rfl) ?_
  refine lv_iload hx hb dL_law_1157 (lv_at hl 4 rfl) ?_
  refine lv_iconst (v := nI 1) hx hb dL_law_1159 (by decide) ?_
  refine lv_iadd hx hb dL_law_1160 ?_
  refine kl_top (z := nI (i + 1)) (by first | exact nI_add _ _ | (rw [nI_add]; first | rfl | (congr 1; omega))) ?_
  refine kl_sld hx hb hX hbl hbB hP (by omega) hL dL_law_1161 ?_
  refine lv_aload_n hx hb dL_law_1162 rfl (lv_at hl 0 rfl) ?_
  refine lv_iload hx hb dL_law_1163 (lv_at hl 4 rfl) ?_
  refine lv_iconst (v := nI 2) hx hb dL_law_1165 (by decide) ?_
  refine lv_iadd hx hb dL_law_1166 ?_
  refine kl_top (z := nI (i + 2)) (by first | exact nI_add _ _ | (rw [nI_add]; first | rfl | (congr 1; omega))) ?_
  refine kl_sld hx hb hX hbl hbB hP (by omega) hL dL_law_1167 ?_
  refine lv_aload_n hx hb dL_law_1168 rfl (lv_at hl 3 rfl) ?_
  refine klx_cSXi (As := [.ref (B + 0), .int (xs (i + 1)), .int (xs (i + 2)), .ref (B + 47)]) (rest := []) ⟨hx, hb, hml, hown, hts⟩ (c_L_referring l hst G B _ (xs (i + 1)) (xs (i + 2)) k0 k2 k6 k7 k8 k47 hru m2 hu hpar) (vx_cwSW 4 hts gL_law_L_referring rfl rfl rfl (by decide +kernel) ⟨Nat.le_of_ble_eq_true rfl, Nat.le_of_ble_eq_true rfl⟩) hK hZ hP rfl hl.1 rfl (Nat.le_of_ble_eq_true rfl) dL_law_1169 ⟨by show cells + 2 ≤ room_1.cells; omega, by show slots + 12 ≤ room_1.slots; omega⟩ (fun _ _ _ _ _ _ hpx _ _ _ _ => hpx.elim) (fun r3 w1 H locs q2 hP => ?_)
  have hMF1 := opm_referring (xs (i + 1)) (xs (i + 2)) hMF q2
  obtain ⟨q26, q27, q28, q29, q30, q31, q32, q33, q34, q35, q36, q37, q38, q39, q40, q41, q42, q43, q44, q45, q46⟩ := hMF1
  refine lv_istore (lv' := [(5, .int r3), (0, .ref b), (1, .ref (B + 0)), (2, .ref (B + 26)), (3, .ref (B + 47)), (4, .int (nI i))]) hx hb dL_law_1172 hl (by decide) rfl (fun ls hl => ?_)
  refine lv_aload_n hx hb dL_law_1174 rfl (lv_at hl 3 rfl) ?_
  refine lv_aload_n hx hb dL_law_1175 rfl (lv_at hl 1 rfl) ?_
  refine lv_iload hx hb dL_law_1176 (lv_at hl 5 rfl) ?_
  refine lv_iconst (v := nI 1) hx hb dL_law_1178 (by decide) ?_
  refine lv_iadd hx hb dL_law_1179 ?_
  refine kl_top (z := nI (i + 1)) (by first | exact nI_add _ _ | (rw [nI_add]; first | rfl | (congr 1; omega))) ?_
  refine kl_sld hx hb hX hbl hbB hP (by omega) hL dL_law_1180 ?_
  refine lv_aload_n hx hb dL_law_1181 rfl (lv_at hl 1 rfl) ?_
  refine lv_iload hx hb dL_law_1182 (lv_at hl 5 rfl) ?_
  refine lv_iconst (v := nI 2) hx hb dL_law_1184 (by decide) ?_
  refine lv_iadd hx hb dL_law_1185 ?_
  refine kl_top (z := nI (i + 2)) (by first | exact nI_add _ _ | (rw [nI_add]; first | rfl | (congr 1; omega))) ?_
  refine kl_sld hx hb hX hbl hbB hP (by omega) hL dL_law_1186 ?_
  refine kl_cVi (C := RX5) (i := 26) (As := [.int (xs (i + 1)), .int (xs (i + 2))]) (rest := []) ⟨hx, hb, hml, hown, hts⟩ (c_X5_referring l G B _ (xs (i + 1)) (xs (i + 2)) q26 q28 q29 q33 q34 q35 m2 hn24 hrl3) (cwV 2 hts gL_law_X5_referring rfl rfl rfl (by decide +kernel) ⟨Nat.le_of_ble_eq_true rfl, Nat.le_of_ble_eq_true rfl⟩) hK hP q26 rfl rfl hl.1 rfl (Nat.le_of_ble_eq_true rfl) dL_law_1187 ⟨by show cells + 2 + 0 ≤ room_1.cells; omega, by show slots + 12 + 0 ≤ room_1.slots; omega⟩ (fun r6 w4 H locs q5 hP => ?_)
  obtain ⟨ol3, hI2, hout⟩ := op_referring (xs (i + 1)) (xs (i + 2)) hJ hMF q2 q5
  have hI3 := hI2
  obtain ⟨nT3, nL3, nS3, nC3, nW3, nM3, n3, rs3, cn3, wt3, T3, C3, mT3, mC3, lf3, sf3, cf3, la3, lch3, lco3, lpa3, lwy3, sa3, stb3, sco3, ca3, cwa3, cpa3, ctb3, cln3, cwd3, ccol3, O3, D3, kR3, kO3, kD3, cw3, hJ3⟩ := hI3
  obtain ⟨-, -, ⟨on3, hi3, oO3, oD3, gn3, pl3, hMF3⟩, f473, -⟩ := hJ3
  have f263 := hMF3.1
  refine lv_istore (lv' := [(6, .int r6), (5, .int r3), (0, .ref b), (1, .ref (B + 0)), (2, .ref (B + 26)), (3, .ref (B + 47)), (4, .int (nI i))]) hx hb dL_law_1190 hl (by decide) rfl (fun ls hl => ?_)
  refine lv_aload_n hx hb dL_law_1192 rfl (lv_at hl 4 rfl) ?_
  refine kl_cVi (C := RX5) (i := 26) (As := []) (rest := []) ⟨hx, hb, hml, hown, hts⟩ (c_X5_thrown l G B _ f263) (cwV 0 hts gL_law_X5_thrown rfl rfl rfl (by decide +kernel) ⟨Nat.le_of_ble_eq_true rfl, Nat.le_of_ble_eq_true rfl⟩) hK hP f263 rfl rfl hl.1 rfl (Nat.le_of_ble_eq_true rfl) dL_law_1193 ⟨by show cells + 2 + 0 + 0 ≤ room_1.cells; omega, by show slots + 12 + 0 + 0 ≤ room_1.slots; omega⟩ (fun r9 w7 H locs q8 hP => ?_)
  obtain ⟨hw9, hr9⟩ := q8
  subst hw9
  refine kl_top (z := r3) hr9 ?_
  refine lv_iload hx hb dL_law_1196 (lv_at hl 1 rfl) ?_
  refine lv_icmp_eq (tgt := 1203) hx hb dL_law_1198 (by decide) (fun c1198 => ?_) (fun c1198 => absurd rfl c1198)
  refine lv_iload hx hb dL_law_1203 (lv_at hl 1 rfl) ?_
  refine lv_if_ne (tgt := 1220) hx hb dL_law_1205 (by decide) (fun c1205 => ?_) (fun c1205 => ?_)
  · refine lv_goto (tgt := 1236) hx hb dL_law_1220 (by decide) ?_
    refine W.widen (k := cells + 50) (n := slots + 500) (by omega) (by omega) ?_
    exact kk _ _ _ _ _ _ hI2 hP (lv_sub hl [2, 3, 4, 5, 6] rfl)
  · refine lv_aload_n hx hb dL_law_1208 rfl (lv_at hl 5 rfl) ?_
    refine lv_iconst (v := nI 0) hx hb dL_law_1209 (by decide) ?_
    refine kl_lald hx hb hK hP f473 (by omega) (by omega) dL_law_1210 ?_
    refine lv_iload hx hb dL_law_1211 (lv_at hl 0 rfl) ?_
    refine lv_i2l hx hb dL_law_1213 rfl ?_
    refine W.lcmp hx hb dL_law_1214 ?_
    refine lv_if_eq (tgt := 1220) hx hb dL_law_1215 (by decide) (fun c1215 => ?_) (fun c1215 => absurd (by rw [hout c1205]; simp [lg_cmp]) c1215)
    refine lv_goto (tgt := 1236) hx hb dL_law_1220 (by decide) ?_
    refine W.widen (k := cells + 50) (n := slots + 500) (by omega) (by omega) ?_
    exact kk _ _ _ _ _ _ hI2 hP (lv_sub hl [2, 3, 4, 5, 6] rfl)

set_option maxHeartbeats 4000000 in
set_option maxRecDepth 100000 in
theorem law_reason {p : Program} {e : Env} {s : State} {m : MethodId} {below : List Frame} {meth : Method} {c : Code} (l : Launch) (hst : l.stackTraces = false) {b L : Nat} {xs : Nat → Int32} (G : kl_G) {B : Nat} (hx : p.tables.exec = Jvm.exec) (hb : c.code = cL_law) (hml : c.maxLocals = 7) (hown : s.vm.findClass RL = some m.cls) (hts : ∀ w ∈ wsL_law, w.before #[Value.ref b] s = true) (hX : va_X b L xs s s.heap) (hbl : b < s.heap.size) (hbB : b < B) (hK : kl_K G s) (hZ : kl_Z B s s.heap) {Q : State → Prop} {cells slots : Nat} (hcs : cells + 100 ≤ room_1.cells ∧ slots + 3000 ≤ room_1.slots) {w : kl_M} {H : Heap} {locs : List Loc} {ls : Array Slot} {i : Nat} (hi : i + 6 ≤ L) (hL : L ≤ 384) {ec : Int32} {ol : Nat → Int64} (hI : mr_I G B w ec ol) (hP : kl_S G B w s.heap H locs) (hl : lv_has ls 7 [(0, .ref b), (1, .ref (B + 0)), (2, .ref (B + 26)), (3, .ref (B + 47)), (4, .int (nI i))])
    (kk : ∀ (w2 : kl_M) (H2 : Heap) (locs2 : List Loc) (ls2 : Array Slot) (ec2 : Int32) (ol2 : Nat → Int64), mr_I G B w2 ec2 ol2 → kl_S G B w2 s.heap H2 locs2 → lv_has ls2 7 [(0, .ref b), (1, .ref (B + 0)), (2, .ref (B + 26)), (3, .ref (B + 47)), (4, .int (nI i))] → W p l e room_1 s m #[Value.ref b] below meth c H2 locs2 (cells + 50) (slots + 500) Q (F0 m 1236 ls2 [])) :
    W p l e room_1 s m #[Value.ref b] below meth c H locs cells slots Q (F0 m 1223 ls []) := by
  obtain ⟨nT, nL, nS, nC, nW, nM, n, rs, cn, wt, T, C, mT, mC, lf, sf, cf, la, lch, lco, lpa, lwy, sa, stb, sco, ca, cwa, cpa, ctb, cln, cwd, ccol, O, D, kR, kO, kD, cw, hJ⟩ := hI
  have hJ2 := hJ
  obtain ⟨⟨dT, dC, gg, k0, k1, k2, k3, k4, k5, k6, k7, k8, k9, k10, k11, k12, k13, k14, k15, k16, k17, k18, k19, k20, k21, k22, k23, k24, k25⟩, hru, ⟨on, hi9, oO, oD, gn, pl, hMF⟩, k47, ⟨⟨m1, m2, m3, m4, m5, m6⟩, hcn2, hwt⟩, hRC, hRW, hW, hM⟩ := hJ2
  have hcn4 : ∀ j, j < nT → cn j ≤ 4 := fun j hj => (hcn2 j hj).2
  have hu := hJ.uniq
  have hpar := hRC.par
  have hn24 : n ≤ 24 := hRW.2.2.2.2
  have hrp := hRC.2.1
  have hrl3 : ∀ j, j < nL → lch j ≠ -1 ∧ lpa j ≠ -1 ∧ lco j < 4 := fun j hj => ⟨(hrp.1 j hj).1, (hrp.1 j hj).2.1, (hrp.1 j hj).2.2.1.2⟩
  have hkR : ∀ j, j < nM → kR j ≤ 24 := fun j hj => (hM j hj).2.2.2.2
  refine lv_aload_n hx hb dL_law_1223 rfl (lv_at hl 1 rfl) ?_
  refine klx_cVi (C := RX4) (i := 0) (As := []) (rest := []) ⟨hx, hb, hml, hown, hts⟩ (c_X4_reason l hst G B _ k0) (cwV 0 hts gL_law_X4_reason rfl rfl rfl (by decide +kernel) ⟨Nat.le_of_ble_eq_true rfl, Nat.le_of_ble_eq_true rfl⟩) hK hZ hP k0 rfl rfl hl.1 rfl (Nat.le_of_ble_eq_true rfl) dL_law_1224 ⟨by show cells + 0 ≤ room_1.cells; omega, by show slots + 0 ≤ room_1.slots; omega⟩ (fun _ _ _ _ _ _ hpx _ _ _ _ => hpx.elim) (fun r3 w1 H locs q2 hP => ?_)
  have hMF1 := md_KF.mv hMF (w1 := w1) (fun j _ _ => (congrFun q2.1 j).symm)
  obtain ⟨q26, q27, q28, q29, q30, q31, q32, q33, q34, q35, q36, q37, q38, q39, q40, q41, q42, q43, q44, q45, q46⟩ := hMF1
  refine lv_aload_n hx hb dL_law_1227 rfl (lv_at hl 2 rfl) ?_
  refine kl_cVi (C := RX5) (i := 26) (As := []) (rest := [.int r3]) ⟨hx, hb, hml, hown, hts⟩ (c_X5_reason l G B _  q26 ) (cwV 0 hts gL_law_X5_reason rfl rfl rfl (by decide +kernel) ⟨Nat.le_of_ble_eq_true rfl, Nat.le_of_ble_eq_true rfl⟩) hK hP q26 rfl rfl hl.1 rfl (Nat.le_of_ble_eq_true rfl) dL_law_1228 ⟨by show cells + 0 + 0 ≤ room_1.cells; omega, by show slots + 0 + 0 ≤ room_1.slots; omega⟩ (fun r6 w4 H locs q5 hP => ?_)
  obtain ⟨hrr, hI2⟩ := op_reason hJ hMF q2 q5
  refine lv_icmp_eq (tgt := 1236) hx hb dL_law_1231 (by decide) (fun c1231 => ?_) (fun c1231 => absurd hrr c1231)
  refine W.widen (k := cells + 50) (n := slots + 500) (by omega) (by omega) ?_
  exact kk _ _ _ _ _ _ hI2 hP (lv_sub hl [0, 1, 2, 3, 4] rfl)
