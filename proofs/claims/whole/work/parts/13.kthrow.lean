/-! Methods that throw, over the map. -/
def kl_Px (G : kl_G) (B : Nat) (w : kl_M) (av : List Value) : Array Value → State → Prop := fun v U => v = av.toArray ∧ kl_P G B w U.heap ∧ kl_K G U ∧ kl_Z B U U.heap
theorem kl_blindx {G : kl_G} {B : Nat} {w : kl_M} {av : List Value} : FrameBlind (kl_Px G B w av) := fun a U g mk q => ⟨q.1, q.2.1, kl_K.same (U := U.calling g mk a) rfl q.2.2.1, kl_Z.moved (u := U) (U := U.calling g mk a) (Vm.Alike.refl U.vm) q.2.2.2⟩
section KLX
variable {p : Program} {l : Launch} {e : Env} {R : Room} {s : State} {m : MethodId} {args : Array Value} {below : List Frame} {meth : Method} {c : Code} {H : Heap} {locs : List Loc} {cells slots : Nat} {Q : State → Prop}
variable {cc : ByteArray} {pc : Nat} {ls : Array Slot} {rest st0 As : List Value} {G : kl_G} {B : Nat} {w : kl_M} {H0 : Heap} {i : Nat}
variable {y : MethodName} {bytes : ByteArray} {maxL nL mc ms n index : Nat} {ret : Option FieldType} {ws : List Cond} {rm : Room} {Ts : List Cond} {own C : String}
variable {Qc : Array Value → State → Outcome → State → Prop} {px : String → kl_M → Prop}
theorem kl_preVx {T : u_T} {N ci : Nat} {fs : List Value} (hK : kl_K G s) (hZ : kl_Z B s s.heap) (hP : kl_S G B w s.heap H locs) (he : w i = some (.inr (ci, fs))) (hc : vwCl[ci]? = some (C, T, N)) : PreV s H C (B + i) (kl_Px G B w (.ref (B + i) :: As)) As :=
  ⟨kl_blindx, kl_recv hK hP he hc, fun U hU hW => ⟨rfl, by rw [hU]; exact hP.1, kl_K.warm hW hK, by rw [hU]; exact (hZ.kept hP.2.1).moved hW.alike⟩⟩
theorem kl_preSx (hK : kl_K G s) (hZ : kl_Z B s s.heap) (hP : kl_S G B w s.heap H locs) : PreS s H (kl_Px G B w As) As :=
  ⟨kl_blindx, fun U hU hW => ⟨rfl, by rw [hU]; exact hP.1, kl_K.warm hW hK, by rw [hU]; exact (hZ.kept hP.2.1).moved hW.alike⟩⟩
theorem kl_endxi {post : Int32 → kl_M → Prop} {a : Array Value} (hP : kl_S G B w H0 H locs) (hr : vx_Run p l e R s m args below meth c H locs cells slots mc ms (F0 m pc ls st0) rest (kl_Qi G B post a) (kl_X G B px) (kl_fr B))
    (kx : ∀ (E : String) (ce : Cell) (q9 : Addr) (w1 : kl_M) (H1 : Heap) (locs1 : List Loc), px E w1 → kl_S G B w1 H0 H1 locs1 → H1[q9]? = some ce → ce.vm = .none → s.vm.findClass E = some ce.cls → vx_W p l e R s m args below meth c H1 locs1 (cells + mc) (slots + ms) Q (F0 m pc ls rest) q9)
    (kk : ∀ (r : Int32) (w1 : kl_M) (H1 : Heap) (locs1 : List Loc), post r w1 → kl_S G B w1 H0 H1 locs1 → W p l e R s m args below meth c H1 locs1 (cells + mc) (slots + ms) Q (F0 m (pc + 3) ls (.int r :: rest))) : W p l e R s m args below meth c H locs cells slots Q (F0 m pc ls st0) := by
  intro T hT X
  rcases hr T hT X with ⟨v, st₀, t, T', L, h0, X', hL, e1, e2, ⟨⟨r, w1, hv, hp, hP1⟩, hF⟩, st⟩ | ⟨q, st₀, t, T', L, E, ce, h0, X', hL, e1, e2, ⟨⟨w1, hp, hP1⟩, hF⟩, hce, hcv, hcl, st⟩
  · cases hv
    rw [h0] at hF
    rw [← e1] at hF hP1
    obtain ⟨t2, a1, b1⟩ := kk r w1 T'.heap (locs ++ L) hp (hP.trans hP1 hF hL) T' rfl X'
    exact ⟨t2, st t2 a1, b1⟩
  · rw [h0] at hF
    rw [← e1] at hF hP1 hce
    obtain ⟨t2, a1, b1⟩ := kx E ce q w1 T'.heap (locs ++ L) hp (hP.trans hP1 hF hL) hce hcv hcl T' rfl X'
    exact ⟨t2, st.trans a1, b1⟩
theorem kl_endxv {post : kl_M → Prop} {a : Array Value} (hP : kl_S G B w H0 H locs) (hr : vx_Run p l e R s m args below meth c H locs cells slots mc ms (F0 m pc ls st0) rest (kl_Qv G B post a) (kl_X G B px) (kl_fr B))
    (kx : ∀ (E : String) (ce : Cell) (q9 : Addr) (w1 : kl_M) (H1 : Heap) (locs1 : List Loc), px E w1 → kl_S G B w1 H0 H1 locs1 → H1[q9]? = some ce → ce.vm = .none → s.vm.findClass E = some ce.cls → vx_W p l e R s m args below meth c H1 locs1 (cells + mc) (slots + ms) Q (F0 m pc ls rest) q9)
    (kk : ∀ (w1 : kl_M) (H1 : Heap) (locs1 : List Loc), post w1 → kl_S G B w1 H0 H1 locs1 → W p l e R s m args below meth c H1 locs1 (cells + mc) (slots + ms) Q (F0 m (pc + 3) ls rest)) : W p l e R s m args below meth c H locs cells slots Q (F0 m pc ls st0) := by
  intro T hT X
  rcases hr T hT X with ⟨v, st₀, t, T', L, h0, X', hL, e1, e2, ⟨⟨w1, hv, hp, hP1⟩, hF⟩, st⟩ | ⟨q, st₀, t, T', L, E, ce, h0, X', hL, e1, e2, ⟨⟨w1, hp, hP1⟩, hF⟩, hce, hcv, hcl, st⟩
  · cases hv
    rw [h0] at hF
    rw [← e1] at hF hP1
    obtain ⟨t2, a1, b1⟩ := kk w1 T'.heap (locs ++ L) hp (hP.trans hP1 hF hL) T' rfl X'
    exact ⟨t2, st t2 a1, b1⟩
  · rw [h0] at hF
    rw [← e1] at hF hP1 hce
    obtain ⟨t2, a1, b1⟩ := kx E ce q w1 T'.heap (locs ++ L) hp (hP.trans hP1 hF hL) hce hcv hcl T' rfl X'
    exact ⟨t2, st.trans a1, b1⟩
theorem klx_cVi {post : Int32 → kl_M → Prop} {T : u_T} {N ci : Nat} {fs : List Value} (S : CallFix p m c cc nL s args Ts own) (hM : vx_Met l y ws rm (kl_Px G B w (.ref (B + i) :: As)) (kl_Qi G B post) (kl_X G B px) mc ms (kl_fr B)) (cw : CallW R s args own C index y bytes maxL ret ws rm mc ms n) (hK : kl_K G s) (hZ : kl_Z B s s.heap) (hP : kl_S G B w s.heap H locs) (he : w i = some (.inr (ci, fs))) (hc : vwCl[ci]? = some (C, T, N))
    (hn : As.length = n) (hsize : ls.size = nL) (hst : st0 = As.reverse ++ .ref (B + i) :: rest) (hW : (rest.map fun v => v.category).sum ≤ 8) (hdg : decode cc pc = .ok (.invokevirtual index, 3)) (hf : cells + mc ≤ R.cells ∧ slots + ms ≤ R.slots)
    (kx : ∀ (E : String) (ce : Cell) (q9 : Addr) (w1 : kl_M) (H1 : Heap) (locs1 : List Loc), px E w1 → kl_S G B w1 s.heap H1 locs1 → H1[q9]? = some ce → ce.vm = .none → s.vm.findClass E = some ce.cls → vx_W p l e R s m args below meth c H1 locs1 (cells + mc) (slots + ms) Q (F0 m pc ls rest) q9)
    (kk : ∀ (r : Int32) (w1 : kl_M) (H1 : Heap) (locs1 : List Loc), post r w1 → kl_S G B w1 s.heap H1 locs1 → W p l e R s m args below meth c H1 locs1 (cells + mc) (slots + ms) Q (F0 m (pc + 3) ls (.int r :: rest))) : W p l e R s m args below meth c H locs cells slots Q (F0 m pc ls st0) :=
  kl_endxi hP (vx_runV (C := C) (b := B + i) (g := F0 m pc ls st0) S hM cw (kl_preVx hK hZ hP he hc) rfl hn hsize hst (lv_room hW) hdg hf) kx kk
theorem klx_cVv {post : kl_M → Prop} {T : u_T} {N ci : Nat} {fs : List Value} (S : CallFix p m c cc nL s args Ts own) (hM : vx_Met l y ws rm (kl_Px G B w (.ref (B + i) :: As)) (kl_Qv G B post) (kl_X G B px) mc ms (kl_fr B)) (cw : CallW R s args own C index y bytes maxL ret ws rm mc ms n) (hK : kl_K G s) (hZ : kl_Z B s s.heap) (hP : kl_S G B w s.heap H locs) (he : w i = some (.inr (ci, fs))) (hc : vwCl[ci]? = some (C, T, N))
    (hn : As.length = n) (hsize : ls.size = nL) (hst : st0 = As.reverse ++ .ref (B + i) :: rest) (hW : (rest.map fun v => v.category).sum ≤ 8) (hdg : decode cc pc = .ok (.invokevirtual index, 3)) (hf : cells + mc ≤ R.cells ∧ slots + ms ≤ R.slots)
    (kx : ∀ (E : String) (ce : Cell) (q9 : Addr) (w1 : kl_M) (H1 : Heap) (locs1 : List Loc), px E w1 → kl_S G B w1 s.heap H1 locs1 → H1[q9]? = some ce → ce.vm = .none → s.vm.findClass E = some ce.cls → vx_W p l e R s m args below meth c H1 locs1 (cells + mc) (slots + ms) Q (F0 m pc ls rest) q9)
    (kk : ∀ (w1 : kl_M) (H1 : Heap) (locs1 : List Loc), post w1 → kl_S G B w1 s.heap H1 locs1 → W p l e R s m args below meth c H1 locs1 (cells + mc) (slots + ms) Q (F0 m (pc + 3) ls rest)) : W p l e R s m args below meth c H locs cells slots Q (F0 m pc ls st0) :=
  kl_endxv hP (vx_runV (C := C) (b := B + i) (g := F0 m pc ls st0) S hM cw (kl_preVx hK hZ hP he hc) rfl hn hsize hst (lv_room hW) hdg hf) kx kk
theorem klx_cSv {post : kl_M → Prop} (S : CallFix p m c cc nL s args Ts own) (hM : vx_Met l y ws rm (kl_Px G B w As) (kl_Qv G B post) (kl_X G B px) mc ms (kl_fr B)) (cw : CallB R s args own index y bytes maxL ret ws rm mc ms n ∧ (Cond.static y).before args s = true) (hK : kl_K G s) (hZ : kl_Z B s s.heap) (hP : kl_S G B w s.heap H locs)
    (hn : As.length = n) (hsize : ls.size = nL) (hst : st0 = As.reverse ++ rest) (hW : (rest.map fun v => v.category).sum ≤ 8) (hdg : decode cc pc = .ok (.invokestatic index, 3)) (hf : cells + mc ≤ R.cells ∧ slots + ms ≤ R.slots)
    (kx : ∀ (E : String) (ce : Cell) (q9 : Addr) (w1 : kl_M) (H1 : Heap) (locs1 : List Loc), px E w1 → kl_S G B w1 s.heap H1 locs1 → H1[q9]? = some ce → ce.vm = .none → s.vm.findClass E = some ce.cls → vx_W p l e R s m args below meth c H1 locs1 (cells + mc) (slots + ms) Q (F0 m pc ls rest) q9)
    (kk : ∀ (w1 : kl_M) (H1 : Heap) (locs1 : List Loc), post w1 → kl_S G B w1 s.heap H1 locs1 → W p l e R s m args below meth c H1 locs1 (cells + mc) (slots + ms) Q (F0 m (pc + 3) ls rest)) : W p l e R s m args below meth c H locs cells slots Q (F0 m pc ls st0) :=
  kl_endxv hP (vx_runS (g := F0 m pc ls st0) S hM cw (kl_preSx hK hZ hP) rfl hn hsize hst (lv_room hW) hdg hf) kx kk
/-- not caught: on to the caller -/
theorem kl_out {E : String} {ce : Cell} {q : Addr} (hout : ∀ x ∈ c.exceptionTable.toList, False) (hlocks : meth.locks = false) (hP : kl_S G B w s.heap H locs) (hx : px E w) (hcell : H[q]? = some ce) (hv : ce.vm = .none) (hcl : s.vm.findClass E = some ce.cls) (hc : cells ≤ mc) (hs : slots ≤ ms) :
    vx_W p l e R s m args below meth c H locs cells slots (vx_MQ below Qc (kl_X G B px) args s mc ms (kl_fr B)) (F0 m pc ls rest) q :=
  vx_out (fun x hx => (hout x hx).elim) hlocks hcell hv hcl (fun t ht _ => ⟨⟨w, hx, by rw [ht]; exact hP.1⟩, by rw [ht]; exact hP.2.1⟩) hP.2.2 hc hs
/-- new X(), thrown here -/
theorem kl_throw (hexec : p.tables.exec = Jvm.exec) (hb : c.code = cc) (hst : l.stackTraces = false) {own cls : String} {names : List String} {ik ic : Nat} {Ts : List Cond} (hts : ∀ w ∈ Ts, w.before args s = true) (hown : s.vm.findClass own = some m.cls) (hfit : Bundle.fit cls = true ∧ ∀ n ∈ names, Bundle.fit n = true)
    (hin : ∀ w ∈ Cond.classLink own ik cls :: Cond.initialized cls :: (vx_at0 own ic cls names).filter goodWord, w ∈ Ts) (hbad : ∀ w ∈ (vx_at0 own ic cls names).filter (fun w => !goodWord w), w ∈ [Cond.castable cls cls, .declares (Bundle.init0 "java/lang/RuntimeException"), .declares (Bundle.init0 "java/lang/Exception"), .declares (Bundle.init0 "java/lang/Throwable")]) (hgood : ∀ w ∈ Cond.classLink own ik cls :: Cond.initialized cls :: vx_at0 own ic cls names, vx_ot w = true)
    (hcp : (cls, cls) ∈ kl_cp) (hK : kl_K G s) (hZ : kl_Z B s s.heap) (hP : kl_S G B w s.heap H locs) (hsize : ls.size = c.maxLocals)
    (d0 : decode cc pc = .ok (.new ik, 3)) (d3 : decode cc (pc + 3) = .ok (.dup, 1)) (d4 : decode cc (pc + 4) = .ok (.invokespecial ic, 3)) (d7 : decode cc (pc + 7) = .ok (.athrow, 1))
    (hout : ∀ x ∈ c.exceptionTable.toList, False) (hRframes : names.length + 3 < R.frames) (hRlocals : (rest.map fun v => v.category).sum + (13 * (names.length + 1) + 42) ≤ R.locals) (hRcells : cells + 1 ≤ R.cells) (hRslots : slots + 6 ≤ R.slots) (hlocks : meth.locks = false)
    (hx : px cls w) (hc : cells + 1 ≤ mc) (hs : slots + 6 ≤ ms) :
    W p l e R s m args below meth c H locs cells slots (vx_MQ below Qc (kl_X G B px) args s mc ms (kl_fr B)) (F0 m pc ls rest) := by
  have hS : va_S (fun q => B ≤ q) s.heap H locs := ⟨hP.2.1.1, fun q _ hn => hP.2.1.2 q (Nat.not_le.mp hn), hP.2.2⟩
  have hat : ∀ w ∈ vx_at0 own ic cls names, w.before args s = true := vx_hat (fun w hw => hts w (hin w (List.mem_cons_of_mem _ (List.mem_cons_of_mem _ hw)))) hbad (vx_c (va_Nw.use rfl (hK.2.1 _ hcp)) (vx_c (va_Nw.use rfl (hK.2.2.2.2 "java/lang/RuntimeException" (by decide))) (vx_c (va_Nw.use rfl (hK.2.2.2.2 "java/lang/Exception" (by decide))) (vx_c (va_Nw.use rfl (hK.2.2.2.2 "java/lang/Throwable" (by decide))) vx_n))))
  refine vx_throw0 hexec hb hst hown hfit.1 hfit.2 (hts _ (hin _ List.mem_cons_self)) (hts _ (hin _ (List.mem_cons_of_mem _ List.mem_cons_self))) hat hgood hZ.1 hZ.2 hS hsize d0 d3 d4 d7 (fun x hx => (hout x hx).elim) hRframes hRlocals hRcells hRslots hlocks (fun t _ hz hq => ?_) hP.2.2 hc hs
  refine ⟨⟨w, hx, Nat.le_trans hP.1.1 hz, fun j e hj => (hP.1.2 j e hj).kept (hq _ (hP.1.2 j e hj).lt)⟩, Nat.le_trans hP.2.1.1 hz, fun q hq2 => (hq q (Nat.lt_of_lt_of_le hq2 hP.1.1)).trans (hP.2.1.2 q hq2)⟩
end KLX
section KLCL
variable {p : Program} {l : Launch} {e : Env} {R : Room} {s : State} {m : MethodId} {args : Array Value} {below : List Frame} {meth : Method} {c : Code} {H : Heap} {locs : List Loc} {cells slots : Nat} {Q : State → Prop}
variable {cc : ByteArray} {pc : Nat} {ls : Array Slot} {rest : List Value} {G : kl_G} {B : Nat} {w : kl_M} {H0 : Heap} {i : Nat}
theorem kl_clone (hexec : p.tables.exec = Jvm.exec) (hb : c.code = cc) (hml : c.maxLocals = ls.size) {own : String} {index : Nat} (hown : s.vm.findClass own = some m.cls)
    (hlink : (Cond.methodLink own index ⟨"[I", "clone", "()Ljava/lang/Object;"⟩).before args s = true) (hsame : (Cond.sameMethod "[I" "java/lang/Object" "clone" "()Ljava/lang/Object;").before args s = true)
    (hnat : (Cond.native ⟨"java/lang/Object", "clone", "()Ljava/lang/Object;"⟩).before args s = true) (hinst : (Cond.instanceMethod ⟨"java/lang/Object", "clone", "()Ljava/lang/Object;"⟩).before args s = true)
    (hsel : (Cond.selects "[I" ⟨"[I", "clone", "()Ljava/lang/Object;"⟩ ⟨"java/lang/Object", "clone", "()Ljava/lang/Object;"⟩).before args s = true)
    (hK : kl_K G s) (hP : kl_S G B w H0 H locs) {n : Nat} {f : Nat → Int32} (he : w i = some (kl_aI G n f))
    (hframes : 1 ≤ R.frames) (hlocals : (rest.map fun v => v.category).sum + 14 ≤ R.locals) (hcells : cells + 1 ≤ R.cells) (hslots : slots + n ≤ R.slots) (hdg : decode cc pc = .ok (.invokevirtual index, 3))
    (kk : ∀ (q : Nat) (w1 : kl_M) (H1 : Heap), H.size = B + q → w1 q = some (kl_aI G n f) → (∀ j, j ≠ q → w1 j = w j) → H1.size = H.size + 1 → kl_S G B w1 H0 H1 locs →
      W p l e R s m args below meth c H1 locs (cells + 1) (slots + n) Q (F0 m (pc + 3) ls (.ref (B + q) :: rest))) : W p l e R s m args below meth c H locs cells slots Q (F0 m pc ls (.ref (B + i) :: rest)) := by
  obtain ⟨q, hq⟩ : ∃ q, H.size = B + q := ⟨H.size - B, by have := hP.1.1; omega⟩
  have hnm : s.vm.findClass "[I" = some (G.2 0) := (hK.1.2 0 (G.2 0, .int) rfl).2
  obtain ⟨c0, t0', f1, f2, f3⟩ := Cond.castable_spec (va_Nw.use (A := args) rfl (hK.2.1 ("[I", "java/lang/Cloneable") (by decide)))
  cases hnm.symm.trans f1
  intro T hT X
  have hcellT : T.heap[B + i]? = some (vp_cell (G.2 0) (n, .inl f)) := by rw [hT]; exact hP.1.2 i _ he
  obtain ⟨-, kA, hkA, comp, hkind⟩ := State.isArrayOf_alike X.warmed.alike ((hK.1.2 0 (G.2 0, .int) rfl).1 0 (fun _ => .null))
  obtain ⟨-, kS, hkS, compS, hkindS⟩ := (hK.1.2 0 (G.2 0, .int) rfl).1 0 (fun _ => .null)
  have hsz : (vp_cell (G.2 0) (n, .inl f)).slots.size = n := arrV_size _ _ _
  obtain ⟨vm', X', st⟩ := X.cloneArray hexec hown hlink hsame hnat hinst hsel (a := B + i) (cell := vp_cell (G.2 0) (n, .inl f)) hcellT (fun k h => by cases h) (fun h => by cases h) hnm f2 f3
    (fun j v hv => by
      have hk' : T.vm.classes[G.2 0]? = some kA := hkA
      have hlt : j < n := by rw [← hsz]; exact (Array.getElem?_eq_some_iff.mp hv).1
      have hv2 : v = .int (f j) := by
        have h2 : (arrV (G.2 0) n (fun j => .int (f j))).slots[j]? = some (.int (f j)) := arrV_read _ _ hlt
        exact Option.some.inj (hv.symm.trans h2)
      subst hv2
      show State.fitsSlot T (G.2 0) _ j _ = true
      simp [State.fitsSlot, State.slotType?, hk', hkind, fits, vp_cell, arrV])
    (g := F0 m pc ls (.ref (B + i) :: rest)) rfl (by rw [hml]) rfl (by rw [hb]; exact hdg) hframes (by show 2 * 0 + _ + 14 ≤ _; omega) hcells (by rw [hsz]; exact hslots) (hloader := Vm.clonesLoader_of_array hkS hkindS)
  have hcellE : ({ cls := (vp_cell (G.2 0) (n, .inl f)).cls, slots := (vp_cell (G.2 0) (n, .inl f)).slots } : Cell) = vp_cell (G.2 0) (n, .inl f) := rfl
  rw [hcellE, hsz] at X'
  generalize hH1 : H.push (vp_cell (G.2 0) (n, .inl f)) = H1
  have z1 : H1.size = H.size + 1 := by rw [← hH1, Array.size_push]
  have e1 : H1[B + q]? = some (vp_cell (G.2 0) (n, .inl f)) := by rw [← hH1, ← hq, Array.getElem?_push_size]
  have o1 : ∀ q : Nat, q < H.size → H1[q]? = H[q]? := fun q hq => by rw [← hH1, Array.getElem?_push, if_neg (Nat.ne_of_lt hq)]
  obtain ⟨t, b1, b2⟩ := kk q _ H1 hq kl_up_self (fun j hj => kl_up_ne hj) z1 (hP.push hq z1 e1 o1)
    ((T.setVm vm').pushCell (vp_cell (G.2 0) (n, .inl f))) (by rw [← hH1, ← hT]; rfl) X'
  refine ⟨t, st t ?_, b2⟩
  rw [hcellE, hT, hq]
  exact b1
end KLCL
