/-! Contracts over the map, and their calls. -/
def kl_Pc (G : kl_G) (B : Nat) (w : kl_M) (av : List Value) : Array Value → State → Prop := fun v U => v = av.toArray ∧ kl_P G B w U.heap ∧ kl_K G U
def kl_Qi (G : kl_G) (B : Nat) (post : Int32 → kl_M → Prop) : Array Value → State → Outcome → State → Prop := fun _ st oc t => (∃ (r : Int32) (w1 : kl_M), oc = .returned (some (.int r)) ∧ post r w1 ∧ kl_P G B w1 t.heap) ∧ kl_F B st.heap t.heap
def kl_Qv (G : kl_G) (B : Nat) (post : kl_M → Prop) : Array Value → State → Outcome → State → Prop := fun _ st oc t => (∃ (w1 : kl_M), oc = .returned none ∧ post w1 ∧ kl_P G B w1 t.heap) ∧ kl_F B st.heap t.heap
def kl_Qr (G : kl_G) (B : Nat) (post : Nat → kl_M → Prop) : Array Value → State → Outcome → State → Prop := fun _ st oc t => (∃ (r : Nat) (w1 : kl_M), oc = .returned (some (.ref (B + r))) ∧ post r w1 ∧ kl_P G B w1 t.heap) ∧ kl_F B st.heap t.heap
/-- the same, with the heap's growth told -/
def kl_Qz (G : kl_G) (B d : Nat) (post : kl_M → Prop) : Array Value → State → Outcome → State → Prop := fun _ st oc t => (∃ (w1 : kl_M), oc = .returned none ∧ post w1 ∧ kl_P G B w1 t.heap ∧ t.heap.size = st.heap.size + d) ∧ kl_F B st.heap t.heap
def kl_Pz (G : kl_G) (B z : Nat) (w : kl_M) (av : List Value) : Array Value → State → Prop := fun v U => v = av.toArray ∧ U.heap.size = z ∧ kl_P G B w U.heap ∧ kl_K G U
abbrev kl_fr (B : Nat) : Addr → Prop := fun q => B ≤ q
def kl_X (G : kl_G) (B : Nat) (px : String → kl_M → Prop) : String → State → State → Prop := fun E st t => (∃ w1 : kl_M, px E w1 ∧ kl_P G B w1 t.heap) ∧ kl_F B st.heap t.heap
theorem kl_blind {G : kl_G} {B : Nat} {w : kl_M} {av : List Value} : FrameBlind (kl_Pc G B w av) := fun a U g mk q => ⟨q.1, q.2.1, kl_K.same (U := U.calling g mk a) rfl q.2.2⟩
theorem kl_blindz {G : kl_G} {B z : Nat} {w : kl_M} {av : List Value} : FrameBlind (kl_Pz G B z w av) := fun a U g mk q => ⟨q.1, q.2.1, q.2.2.1, kl_K.same (U := U.calling g mk a) rfl q.2.2.2⟩
/-- a truth value -/
def kl_b (r : Int32) (P : Prop) : Prop := (r = nI 1 ∧ P) ∨ (r = nI 0 ∧ ¬ P)
theorem kl_b.z {r : Int32} {P : Prop} (h : kl_b r P) : r = 0 ↔ ¬ P := by
  rcases h with ⟨rfl, h⟩ | ⟨rfl, h⟩
  · exact ⟨fun q => absurd q (by decide), fun q => absurd h q⟩
  · exact ⟨fun _ => h, fun _ => by decide⟩
theorem kl_b.t {P : Prop} (h : P) : kl_b (nI 1) P := Or.inl ⟨rfl, h⟩
theorem kl_b.f {P : Prop} (h : ¬ P) : kl_b (nI 0) P := Or.inr ⟨rfl, h⟩
theorem kl_b.iff {r : Int32} {P P2 : Prop} (h : kl_b r P) (e : P ↔ P2) : kl_b r P2 := by
  rcases h with ⟨h1, h⟩ | ⟨h1, h⟩
  · exact Or.inl ⟨h1, e.mp h⟩
  · exact Or.inr ⟨h1, fun q => h (e.mpr q)⟩
theorem kl_b.nar {r : Int32} {P : Prop} (h : kl_b r P) : narrow .boolean (.int r) = .int r := by
  rcases h with ⟨rfl, -⟩ | ⟨rfl, -⟩ <;> decide
theorem kl_b.vnar {r : Int32} {P : Prop} (h : kl_b r P) : vp_nar .boolean r = r := by
  rcases h with ⟨rfl, -⟩ | ⟨rfl, -⟩ <;> decide
section KLC
variable {p : Program} {l : Launch} {e : Env} {R : Room} {s : State} {m : MethodId} {args : Array Value} {below : List Frame} {meth : Method} {c : Code} {H : Heap} {locs : List Loc} {cells slots : Nat} {Q : State → Prop}
variable {cc : ByteArray} {pc : Nat} {ls : Array Slot} {rest st0 As : List Value} {G : kl_G} {B : Nat} {w : kl_M} {H0 : Heap} {i : Nat}
variable {y : MethodName} {bytes : ByteArray} {maxL nL mc ms n index : Nat} {ret : Option FieldType} {ws : List Cond} {rm : Room} {Ts : List Cond} {own C : String}
theorem kl_recv {C : String} {T : u_T} {N ci : Nat} {fs : List Value} (hK : kl_K G s) (hP : kl_S G B w H0 H locs) (he : w i = some (.inr (ci, fs))) (hc : vwCl[ci]? = some (C, T, N)) : ∃ cell : Cell, H[B + i]? = some cell ∧ cell.vm.isStatics = false ∧ s.vm.findClass C = some cell.cls := va_recv (q0 := 0) hK.1 (hP.one he) hc rfl
theorem kl_endi {post : Int32 → kl_M → Prop} {a : Array Value} (hP : kl_S G B w H0 H locs) (hr : CallRun p l e R s m args below meth c H locs cells slots mc ms (F0 m pc ls st0) rest (kl_Qi G B post a) (kl_fr B))
    (kk : ∀ (r : Int32) (w1 : kl_M) (H1 : Heap) (locs1 : List Loc), post r w1 → kl_S G B w1 H0 H1 locs1 → W p l e R s m args below meth c H1 locs1 (cells + mc) (slots + ms) Q (F0 m (pc + 3) ls (.int r :: rest))) : W p l e R s m args below meth c H locs cells slots Q (F0 m pc ls st0) := by
  intro T hT X
  obtain ⟨v, st₀, t, T', L, h0, X', hL, e1, ⟨⟨r, w1, hv, hp, hP1⟩, hF⟩, st⟩ := hr T hT X
  cases hv
  rw [h0] at hF
  rw [← e1] at hF hP1
  obtain ⟨t2, a1, b1⟩ := kk r w1 T'.heap (locs ++ L) hp (hP.trans hP1 hF hL) T' rfl X'
  exact ⟨t2, st t2 a1, b1⟩
theorem kl_endv {post : kl_M → Prop} {a : Array Value} (hP : kl_S G B w H0 H locs) (hr : CallRun p l e R s m args below meth c H locs cells slots mc ms (F0 m pc ls st0) rest (kl_Qv G B post a) (kl_fr B))
    (kk : ∀ (w1 : kl_M) (H1 : Heap) (locs1 : List Loc), post w1 → kl_S G B w1 H0 H1 locs1 → W p l e R s m args below meth c H1 locs1 (cells + mc) (slots + ms) Q (F0 m (pc + 3) ls rest)) : W p l e R s m args below meth c H locs cells slots Q (F0 m pc ls st0) := by
  intro T hT X
  obtain ⟨v, st₀, t, T', L, h0, X', hL, e1, ⟨⟨w1, hv, hp, hP1⟩, hF⟩, st⟩ := hr T hT X
  cases hv
  rw [h0] at hF
  rw [← e1] at hF hP1
  obtain ⟨t2, a1, b1⟩ := kk w1 T'.heap (locs ++ L) hp (hP.trans hP1 hF hL) T' rfl X'
  exact ⟨t2, st t2 a1, b1⟩
theorem kl_endr {post : Nat → kl_M → Prop} {a : Array Value} (hP : kl_S G B w H0 H locs) (hr : CallRun p l e R s m args below meth c H locs cells slots mc ms (F0 m pc ls st0) rest (kl_Qr G B post a) (kl_fr B))
    (kk : ∀ (r : Nat) (w1 : kl_M) (H1 : Heap) (locs1 : List Loc), post r w1 → kl_S G B w1 H0 H1 locs1 → W p l e R s m args below meth c H1 locs1 (cells + mc) (slots + ms) Q (F0 m (pc + 3) ls (.ref (B + r) :: rest))) : W p l e R s m args below meth c H locs cells slots Q (F0 m pc ls st0) := by
  intro T hT X
  obtain ⟨v, st₀, t, T', L, h0, X', hL, e1, ⟨⟨r, w1, hv, hp, hP1⟩, hF⟩, st⟩ := hr T hT X
  cases hv
  rw [h0] at hF
  rw [← e1] at hF hP1
  obtain ⟨t2, a1, b1⟩ := kk r w1 T'.heap (locs ++ L) hp (hP.trans hP1 hF hL) T' rfl X'
  exact ⟨t2, st t2 a1, b1⟩
theorem kl_endz {d : Nat} {post : kl_M → Prop} {a : Array Value} (hP : kl_S G B w H0 H locs) (hr : CallRun p l e R s m args below meth c H locs cells slots mc ms (F0 m pc ls st0) rest (kl_Qz G B d post a) (kl_fr B))
    (kk : ∀ (w1 : kl_M) (H1 : Heap) (locs1 : List Loc), post w1 → H1.size = H.size + d → kl_S G B w1 H0 H1 locs1 → W p l e R s m args below meth c H1 locs1 (cells + mc) (slots + ms) Q (F0 m (pc + 3) ls rest)) : W p l e R s m args below meth c H locs cells slots Q (F0 m pc ls st0) := by
  intro T hT X
  obtain ⟨v, st₀, t, T', L, h0, X', hL, e1, ⟨⟨w1, hv, hp, hP1, hz⟩, hF⟩, st⟩ := hr T hT X
  cases hv
  rw [h0] at hF hz
  rw [← e1] at hF hP1 hz
  obtain ⟨t2, a1, b1⟩ := kk w1 T'.heap (locs ++ L) hp hz (hP.trans hP1 hF hL) T' rfl X'
  exact ⟨t2, st t2 a1, b1⟩
theorem kl_preV {T : u_T} {N ci : Nat} {fs : List Value} (hK : kl_K G s) (hP : kl_S G B w H0 H locs) (he : w i = some (.inr (ci, fs))) (hc : vwCl[ci]? = some (C, T, N)) : PreV s H C (B + i) (kl_Pc G B w (.ref (B + i) :: As)) As :=
  ⟨kl_blind, kl_recv hK hP he hc, fun U hU hW => ⟨rfl, by rw [hU]; exact hP.1, kl_K.warm hW hK⟩⟩
theorem kl_preS (hK : kl_K G s) (hP : kl_S G B w H0 H locs) : PreS s H (kl_Pc G B w As) As :=
  ⟨kl_blind, fun U hU hW => ⟨rfl, by rw [hU]; exact hP.1, kl_K.warm hW hK⟩⟩
theorem kl_preZ {z : Nat} (hz : H.size = z) (hK : kl_K G s) (hP : kl_S G B w H0 H locs) : PreS s H (kl_Pz G B z w As) As :=
  ⟨kl_blindz, fun U hU hW => ⟨rfl, by rw [hU]; exact hz, by rw [hU]; exact hP.1, kl_K.warm hW hK⟩⟩
theorem kl_cVi {post : Int32 → kl_M → Prop} {T : u_T} {N ci : Nat} {fs : List Value} (S : CallFix p m c cc nL s args Ts own) (hM : Met l y ws rm (kl_Pc G B w (.ref (B + i) :: As)) (kl_Qi G B post) mc ms (kl_fr B)) (cw : CallW R s args own C index y bytes maxL ret ws rm mc ms n) (hK : kl_K G s) (hP : kl_S G B w H0 H locs) (he : w i = some (.inr (ci, fs))) (hc : vwCl[ci]? = some (C, T, N))
    (hn : As.length = n) (hsize : ls.size = nL) (hst : st0 = As.reverse ++ .ref (B + i) :: rest) (hW : (rest.map fun v => v.category).sum ≤ 8) (hdg : decode cc pc = .ok (.invokevirtual index, 3)) (hf : cells + mc ≤ R.cells ∧ slots + ms ≤ R.slots)
    (kk : ∀ (r : Int32) (w1 : kl_M) (H1 : Heap) (locs1 : List Loc), post r w1 → kl_S G B w1 H0 H1 locs1 → W p l e R s m args below meth c H1 locs1 (cells + mc) (slots + ms) Q (F0 m (pc + 3) ls (.int r :: rest))) : W p l e R s m args below meth c H locs cells slots Q (F0 m pc ls st0) :=
  kl_endi hP (W.runV (C := C) (b := B + i) (g := F0 m pc ls st0) S hM cw (kl_preV hK hP he hc) rfl hn hsize hst (lv_room hW) hdg hf) kk
theorem kl_cVv {post : kl_M → Prop} {T : u_T} {N ci : Nat} {fs : List Value} (S : CallFix p m c cc nL s args Ts own) (hM : Met l y ws rm (kl_Pc G B w (.ref (B + i) :: As)) (kl_Qv G B post) mc ms (kl_fr B)) (cw : CallW R s args own C index y bytes maxL ret ws rm mc ms n) (hK : kl_K G s) (hP : kl_S G B w H0 H locs) (he : w i = some (.inr (ci, fs))) (hc : vwCl[ci]? = some (C, T, N))
    (hn : As.length = n) (hsize : ls.size = nL) (hst : st0 = As.reverse ++ .ref (B + i) :: rest) (hW : (rest.map fun v => v.category).sum ≤ 8) (hdg : decode cc pc = .ok (.invokevirtual index, 3)) (hf : cells + mc ≤ R.cells ∧ slots + ms ≤ R.slots)
    (kk : ∀ (w1 : kl_M) (H1 : Heap) (locs1 : List Loc), post w1 → kl_S G B w1 H0 H1 locs1 → W p l e R s m args below meth c H1 locs1 (cells + mc) (slots + ms) Q (F0 m (pc + 3) ls rest)) : W p l e R s m args below meth c H locs cells slots Q (F0 m pc ls st0) :=
  kl_endv hP (W.runV (C := C) (b := B + i) (g := F0 m pc ls st0) S hM cw (kl_preV hK hP he hc) rfl hn hsize hst (lv_room hW) hdg hf) kk
theorem kl_cSi {post : Int32 → kl_M → Prop} (S : CallFix p m c cc nL s args Ts own) (hM : Met l y ws rm (kl_Pc G B w As) (kl_Qi G B post) mc ms (kl_fr B)) (cw : CallB R s args own index y bytes maxL ret ws rm mc ms n ∧ (Cond.static y).before args s = true) (hK : kl_K G s) (hP : kl_S G B w H0 H locs)
    (hn : As.length = n) (hsize : ls.size = nL) (hst : st0 = As.reverse ++ rest) (hW : (rest.map fun v => v.category).sum ≤ 8) (hdg : decode cc pc = .ok (.invokestatic index, 3)) (hf : cells + mc ≤ R.cells ∧ slots + ms ≤ R.slots)
    (kk : ∀ (r : Int32) (w1 : kl_M) (H1 : Heap) (locs1 : List Loc), post r w1 → kl_S G B w1 H0 H1 locs1 → W p l e R s m args below meth c H1 locs1 (cells + mc) (slots + ms) Q (F0 m (pc + 3) ls (.int r :: rest))) : W p l e R s m args below meth c H locs cells slots Q (F0 m pc ls st0) :=
  kl_endi hP (W.runS (g := F0 m pc ls st0) S hM cw (kl_preS hK hP) rfl hn hsize hst (lv_room hW) hdg hf) kk
theorem kl_cSv {post : kl_M → Prop} (S : CallFix p m c cc nL s args Ts own) (hM : Met l y ws rm (kl_Pc G B w As) (kl_Qv G B post) mc ms (kl_fr B)) (cw : CallB R s args own index y bytes maxL ret ws rm mc ms n ∧ (Cond.static y).before args s = true) (hK : kl_K G s) (hP : kl_S G B w H0 H locs)
    (hn : As.length = n) (hsize : ls.size = nL) (hst : st0 = As.reverse ++ rest) (hW : (rest.map fun v => v.category).sum ≤ 8) (hdg : decode cc pc = .ok (.invokestatic index, 3)) (hf : cells + mc ≤ R.cells ∧ slots + ms ≤ R.slots)
    (kk : ∀ (w1 : kl_M) (H1 : Heap) (locs1 : List Loc), post w1 → kl_S G B w1 H0 H1 locs1 → W p l e R s m args below meth c H1 locs1 (cells + mc) (slots + ms) Q (F0 m (pc + 3) ls rest)) : W p l e R s m args below meth c H locs cells slots Q (F0 m pc ls st0) :=
  kl_endv hP (W.runS (g := F0 m pc ls st0) S hM cw (kl_preS hK hP) rfl hn hsize hst (lv_room hW) hdg hf) kk
theorem kl_cSr {post : Nat → kl_M → Prop} (S : CallFix p m c cc nL s args Ts own) (hM : Met l y ws rm (kl_Pc G B w As) (kl_Qr G B post) mc ms (kl_fr B)) (cw : CallB R s args own index y bytes maxL ret ws rm mc ms n ∧ (Cond.static y).before args s = true) (hK : kl_K G s) (hP : kl_S G B w H0 H locs)
    (hn : As.length = n) (hsize : ls.size = nL) (hst : st0 = As.reverse ++ rest) (hW : (rest.map fun v => v.category).sum ≤ 8) (hdg : decode cc pc = .ok (.invokestatic index, 3)) (hf : cells + mc ≤ R.cells ∧ slots + ms ≤ R.slots)
    (kk : ∀ (r : Nat) (w1 : kl_M) (H1 : Heap) (locs1 : List Loc), post r w1 → kl_S G B w1 H0 H1 locs1 → W p l e R s m args below meth c H1 locs1 (cells + mc) (slots + ms) Q (F0 m (pc + 3) ls (.ref (B + r) :: rest))) : W p l e R s m args below meth c H locs cells slots Q (F0 m pc ls st0) :=
  kl_endr hP (W.runS (g := F0 m pc ls st0) S hM cw (kl_preS hK hP) rfl hn hsize hst (lv_room hW) hdg hf) kk
theorem kl_cIz {z d : Nat} {post : kl_M → Prop} (S : CallFix p m c cc nL s args Ts own) (hM : Met l y ws rm (kl_Pz G B z w (.ref (B + i) :: As)) (kl_Qz G B d post) mc ms (kl_fr B)) (cw : CallB R s args own index y bytes maxL none ws rm mc ms n ∧ y.name = "<init>" ∧ (Cond.instanceMethod y).before args s = true) (hz : H.size = z) (hK : kl_K G s) (hP : kl_S G B w H0 H locs)
    (hn : As.length = n) (hsize : ls.size = nL) (hst : st0 = As.reverse ++ .ref (B + i) :: rest) (hW : (rest.map fun v => v.category).sum ≤ 8) (hdg : decode cc pc = .ok (.invokespecial index, 3)) (hf : cells + mc ≤ R.cells ∧ slots + ms ≤ R.slots)
    (kk : ∀ (w1 : kl_M) (H1 : Heap) (locs1 : List Loc), post w1 → H1.size = H.size + d → kl_S G B w1 H0 H1 locs1 → W p l e R s m args below meth c H1 locs1 (cells + mc) (slots + ms) Q (F0 m (pc + 3) ls rest)) : W p l e R s m args below meth c H locs cells slots Q (F0 m pc ls st0) :=
  kl_endz hP (W.runI (b := B + i) (g := F0 m pc ls st0) S hM cw (kl_preZ hz hK hP) rfl hn hsize hst (lv_room hW) hdg hf) kk
theorem kl_cSz {z d : Nat} {post : kl_M → Prop} (S : CallFix p m c cc nL s args Ts own) (hM : Met l y ws rm (kl_Pz G B z w As) (kl_Qz G B d post) mc ms (kl_fr B)) (cw : CallB R s args own index y bytes maxL ret ws rm mc ms n ∧ (Cond.static y).before args s = true) (hz : H.size = z) (hK : kl_K G s) (hP : kl_S G B w H0 H locs)
    (hn : As.length = n) (hsize : ls.size = nL) (hst : st0 = As.reverse ++ rest) (hW : (rest.map fun v => v.category).sum ≤ 8) (hdg : decode cc pc = .ok (.invokestatic index, 3)) (hf : cells + mc ≤ R.cells ∧ slots + ms ≤ R.slots)
    (kk : ∀ (w1 : kl_M) (H1 : Heap) (locs1 : List Loc), post w1 → H1.size = H.size + d → kl_S G B w1 H0 H1 locs1 → W p l e R s m args below meth c H1 locs1 (cells + mc) (slots + ms) Q (F0 m (pc + 3) ls rest)) : W p l e R s m args below meth c H locs cells slots Q (F0 m pc ls st0) :=
  kl_endz hP (W.runS (g := F0 m pc ls st0) S hM cw (kl_preZ hz hK hP) rfl hn hsize hst (lv_room hW) hdg hf) kk
/-! ends -/
theorem kl_iret {post : Int32 → kl_M → Prop} {v : Int32} (hexec : p.tables.exec = Jvm.exec) (hb : c.code = cc) (hr : meth.sig.returnType = some .int) (hlocks : meth.locks = false) (hP : kl_S G B w s.heap H locs) (hpost : post v w) (hdg : decode cc pc = .ok (.ireturn, 1)) : W p l e R s m args below meth c H locs cells slots (MQ below (kl_Qi G B post) args s cells slots (kl_fr B)) (F0 m pc ls [.int v]) :=
  W.iret hexec hb hr (fun t ht _ => ⟨⟨v, w, rfl, hpost, by rw [ht]; exact hP.1⟩, by rw [ht]; exact hP.2.1⟩) hP.2.2 hdg hlocks
theorem kl_zret {post : Int32 → kl_M → Prop} {v : Int32} (hexec : p.tables.exec = Jvm.exec) (hb : c.code = cc) (hr : meth.sig.returnType = some .boolean) (hlocks : meth.locks = false) (hn : narrow .boolean (.int v) = .int v) (hP : kl_S G B w s.heap H locs) (hpost : post v w) (hdg : decode cc pc = .ok (.ireturn, 1)) : W p l e R s m args below meth c H locs cells slots (MQ below (kl_Qi G B post) args s cells slots (kl_fr B)) (F0 m pc ls [.int v]) :=
  W.zret hexec hb hr hn (fun t ht _ => ⟨⟨v, w, rfl, hpost, by rw [ht]; exact hP.1⟩, by rw [ht]; exact hP.2.1⟩) hP.2.2 hdg hlocks
theorem kl_vret {post : kl_M → Prop} (hexec : p.tables.exec = Jvm.exec) (hb : c.code = cc) (hr : meth.sig.returnType = none) (hlocks : meth.locks = false) (hP : kl_S G B w s.heap H locs) (hpost : post w) (hdg : decode cc pc = .ok (.return_, 1)) : W p l e R s m args below meth c H locs cells slots (MQ below (kl_Qv G B post) args s cells slots (kl_fr B)) (F0 m pc ls []) :=
  W.vret hexec hb hr (fun t ht _ => ⟨⟨w, rfl, hpost, by rw [ht]; exact hP.1⟩, by rw [ht]; exact hP.2.1⟩) hP.2.2 hdg hlocks
theorem kl_vretz {d : Nat} {post : kl_M → Prop} (hexec : p.tables.exec = Jvm.exec) (hb : c.code = cc) (hr : meth.sig.returnType = none) (hlocks : meth.locks = false) (hP : kl_S G B w s.heap H locs) (hpost : post w) (hz : H.size = s.heap.size + d) (hdg : decode cc pc = .ok (.return_, 1)) : W p l e R s m args below meth c H locs cells slots (MQ below (kl_Qz G B d post) args s cells slots (kl_fr B)) (F0 m pc ls []) :=
  W.vret hexec hb hr (fun t ht _ => ⟨⟨w, rfl, hpost, by rw [ht]; exact hP.1, by rw [ht]; exact hz⟩, by rw [ht]; exact hP.2.1⟩) hP.2.2 hdg hlocks
theorem kl_aret {post : Nat → kl_M → Prop} {v : Nat} {rt : FieldType} (hexec : p.tables.exec = Jvm.exec) (hb : c.code = cc) (hr : meth.sig.returnType = some rt) (hrt : (∃ n, rt = .object n) ∨ ∃ t, rt = .array t) (hlocks : meth.locks = false) (hP : kl_S G B w s.heap H locs) (hpost : post v w) (hdg : decode cc pc = .ok (.areturn, 1)) : W p l e R s m args below meth c H locs cells slots (MQ below (kl_Qr G B post) args s cells slots (kl_fr B)) (F0 m pc ls [.ref (B + v)]) :=
  W.aret hexec hb hr hrt (Or.inr ⟨_, rfl⟩) (fun t ht _ => ⟨⟨v, w, rfl, hpost, by rw [ht]; exact hP.1⟩, by rw [ht]; exact hP.2.1⟩) hP.2.2 hdg hlocks
/-! numbers -/
theorem kl_top {x z : Int32} (h : x = z) (k : W p l e R s m args below meth c H locs cells slots Q (F0 m pc ls (.int z :: rest))) : W p l e R s m args below meth c H locs cells slots Q (F0 m pc ls (.int x :: rest)) := by rw [h]; exact k
theorem kl_ge (hexec : p.tables.exec = Jvm.exec) (hb : c.code = cc) {x y : Nat} {off : Int} {tgt : Nat} (hx : x < 2 ^ 31) (hy : y < 2 ^ 31) (hdg : decode cc pc = .ok (.if_icmp .ge off, 3)) (ht : (pc : Int) + off = (tgt : Int)) (kt : y ≤ x → W p l e R s m args below meth c H locs cells slots Q (F0 m tgt ls rest)) (kf : x < y → W p l e R s m args below meth c H locs cells slots Q (F0 m (pc + 3) ls rest)) : W p l e R s m args below meth c H locs cells slots Q (F0 m pc ls (.int (nI y) :: .int (nI x) :: rest)) :=
  lv_icmp_ge hexec hb hdg ht (fun h => kt ((nI_leI hy hx).mp h)) (fun h => kf (Nat.not_le.mp fun q => h ((nI_leI hy hx).mpr q)))
theorem kl_lt (hexec : p.tables.exec = Jvm.exec) (hb : c.code = cc) {x y : Nat} {off : Int} {tgt : Nat} (hx : x < 2 ^ 31) (hy : y < 2 ^ 31) (hdg : decode cc pc = .ok (.if_icmp .lt off, 3)) (ht : (pc : Int) + off = (tgt : Int)) (kt : x < y → W p l e R s m args below meth c H locs cells slots Q (F0 m tgt ls rest)) (kf : y ≤ x → W p l e R s m args below meth c H locs cells slots Q (F0 m (pc + 3) ls rest)) : W p l e R s m args below meth c H locs cells slots Q (F0 m pc ls (.int (nI y) :: .int (nI x) :: rest)) :=
  lv_icmp_lt hexec hb hdg ht (fun h => kt ((nI_ltI hx hy).mp h)) (fun h => kf (Nat.not_lt.mp fun q => h ((nI_ltI hx hy).mpr q)))
theorem kl_gt (hexec : p.tables.exec = Jvm.exec) (hb : c.code = cc) {x y : Nat} {off : Int} {tgt : Nat} (hx : x < 2 ^ 31) (hy : y < 2 ^ 31) (hdg : decode cc pc = .ok (.if_icmp .gt off, 3)) (ht : (pc : Int) + off = (tgt : Int)) (kt : y < x → W p l e R s m args below meth c H locs cells slots Q (F0 m tgt ls rest)) (kf : x ≤ y → W p l e R s m args below meth c H locs cells slots Q (F0 m (pc + 3) ls rest)) : W p l e R s m args below meth c H locs cells slots Q (F0 m pc ls (.int (nI y) :: .int (nI x) :: rest)) :=
  lv_icmp_gt hexec hb hdg ht (fun h => kt ((nI_ltI hy hx).mp h)) (fun h => kf (Nat.not_lt.mp fun q => h ((nI_ltI hy hx).mpr q)))
theorem kl_le (hexec : p.tables.exec = Jvm.exec) (hb : c.code = cc) {x y : Nat} {off : Int} {tgt : Nat} (hx : x < 2 ^ 31) (hy : y < 2 ^ 31) (hdg : decode cc pc = .ok (.if_icmp .le off, 3)) (ht : (pc : Int) + off = (tgt : Int)) (kt : x ≤ y → W p l e R s m args below meth c H locs cells slots Q (F0 m tgt ls rest)) (kf : y < x → W p l e R s m args below meth c H locs cells slots Q (F0 m (pc + 3) ls rest)) : W p l e R s m args below meth c H locs cells slots Q (F0 m pc ls (.int (nI y) :: .int (nI x) :: rest)) :=
  lv_icmp_le hexec hb hdg ht (fun h => kt ((nI_leI hx hy).mp h)) (fun h => kf (Nat.not_le.mp fun q => h ((nI_leI hx hy).mpr q)))
theorem kl_eq (hexec : p.tables.exec = Jvm.exec) (hb : c.code = cc) {x y : Nat} {off : Int} {tgt : Nat} (hx : x < 2 ^ 31) (hy : y < 2 ^ 31) (hdg : decode cc pc = .ok (.if_icmp .eq off, 3)) (ht : (pc : Int) + off = (tgt : Int)) (kt : x = y → W p l e R s m args below meth c H locs cells slots Q (F0 m tgt ls rest)) (kf : ¬ x = y → W p l e R s m args below meth c H locs cells slots Q (F0 m (pc + 3) ls rest)) : W p l e R s m args below meth c H locs cells slots Q (F0 m pc ls (.int (nI y) :: .int (nI x) :: rest)) :=
  lv_icmp_eq hexec hb hdg ht (fun h => kt ((nI_eq hx hy).mp h)) (fun h => kf (fun q => h ((nI_eq hx hy).mpr q)))
theorem kl_ne (hexec : p.tables.exec = Jvm.exec) (hb : c.code = cc) {x y : Nat} {off : Int} {tgt : Nat} (hx : x < 2 ^ 31) (hy : y < 2 ^ 31) (hdg : decode cc pc = .ok (.if_icmp .ne off, 3)) (ht : (pc : Int) + off = (tgt : Int)) (kt : ¬ x = y → W p l e R s m args below meth c H locs cells slots Q (F0 m tgt ls rest)) (kf : x = y → W p l e R s m args below meth c H locs cells slots Q (F0 m (pc + 3) ls rest)) : W p l e R s m args below meth c H locs cells slots Q (F0 m pc ls (.int (nI y) :: .int (nI x) :: rest)) :=
  lv_icmp_ne hexec hb hdg ht (fun h => kt (fun q => h ((nI_eq hx hy).mpr q))) (fun h => kf ((nI_eq hx hy).mp h))
theorem kl_ifeq (hexec : p.tables.exec = Jvm.exec) (hb : c.code = cc) {x : Int32} {P : Prop} (hx : kl_b x P) {off : Int} {tgt : Nat} (hdg : decode cc pc = .ok (.ifCond .eq off, 3)) (ht : (pc : Int) + off = (tgt : Int)) (kt : ¬ P → W p l e R s m args below meth c H locs cells slots Q (F0 m tgt ls rest)) (kf : P → W p l e R s m args below meth c H locs cells slots Q (F0 m (pc + 3) ls rest)) : W p l e R s m args below meth c H locs cells slots Q (F0 m pc ls (.int x :: rest)) :=
  lv_if_eq hexec hb hdg ht (fun h => kt (hx.z.mp h)) (fun h => kf (Classical.byContradiction fun q => h (hx.z.mpr q)))
theorem kl_ifne (hexec : p.tables.exec = Jvm.exec) (hb : c.code = cc) {x : Int32} {P : Prop} (hx : kl_b x P) {off : Int} {tgt : Nat} (hdg : decode cc pc = .ok (.ifCond .ne off, 3)) (ht : (pc : Int) + off = (tgt : Int)) (kt : P → W p l e R s m args below meth c H locs cells slots Q (F0 m tgt ls rest)) (kf : ¬ P → W p l e R s m args below meth c H locs cells slots Q (F0 m (pc + 3) ls rest)) : W p l e R s m args below meth c H locs cells slots Q (F0 m pc ls (.int x :: rest)) :=
  lv_if_ne hexec hb hdg ht (fun h => kt (Classical.byContradiction fun q => h (hx.z.mpr q))) (fun h => kf (hx.z.mp h))
theorem kl_copyi (hexec : p.tables.exec = Jvm.exec) (hb : c.code = cc) (hml : c.maxLocals = ls.size) {own : String} {index : Nat} (hown : s.vm.findClass own = some m.cls) (hlink : (Cond.methodLink own index arraycopyName).before args s = true) (hnat : (Cond.native arraycopyName).before args s = true) (hstat : (Cond.static arraycopyName).before args s = true) (hini : (Cond.initialized "java/lang/System").before args s = true)
    (hK : kl_K G s) (hP : kl_S G B w H0 H locs) {i2 n0 n1 n : Nat} {f g : Nat → Int32} (he0 : w i = some (kl_aI G n0 f)) (he1 : w i2 = some (kl_aI G n1 g)) (h0 : n ≤ n0) (h1 : n ≤ n1) (hn : n < 2 ^ 31)
    (hframes : 1 ≤ R.frames) (hlocals : (rest.map fun v => v.category).sum + (nativeFrameWords "java/lang/System" "arraycopy" 5 + 11) ≤ R.locals) (hdg : decode cc pc = .ok (.invokestatic index, 3))
    (kk : ∀ (w1 : kl_M) (H1 : Heap) (locs1 : List Loc), w1 i2 = some (kl_aI G n1 (va_cpy f g 0 0 n)) → (∀ j, j ≠ i2 → w1 j = w j) → H1.size = H.size → kl_S G B w1 H0 H1 locs1 → W p l e R s m args below meth c H1 locs1 cells slots Q (F0 m (pc + 3) ls rest)) : W p l e R s m args below meth c H locs cells slots Q (F0 m pc ls (.int (nI n) :: .int (nI 0) :: .ref (B + i2) :: .int (nI 0) :: .ref (B + i) :: rest)) := by
  have hc : (nI n).toNatClampNeg = n := nI_clamp hn
  have hc0 : (nI 0).toNatClampNeg = 0 := nI_clamp (by omega)
  have nn : ∀ z : Nat, z < 2 ^ 31 → (nI z).toInt = (z : Int) := fun z hz => nI_toInt hz
  intro T hT X
  have hc0' : H[B + i]? = some (vp_cell (G.2 0) (n0, .inl f)) := hP.1.2 i _ he0
  have hc1 : H[B + i2]? = some (vp_cell (G.2 0) (n1, .inl g)) := hP.1.2 i2 _ he1
  obtain ⟨-, k0, hk0, cm0, hkk0⟩ := (hK.1.2 0 (G.2 0, .int) rfl).1 n0 (fun j => .int (f j))
  obtain ⟨vm', X', step⟩ := X.arraycopy hexec hown hlink hnat hstat hini (src := B + i) (dst := B + i2) (cs := vp_cell (G.2 0) (n0, .inl f)) (cd := vp_cell (G.2 0) (n1, .inl g)) (srcPos := nI 0) (destPos := nI 0) (n := nI n) (by rw [hT]; exact hc0') (by rw [hT]; exact hc1)
    (fun _ h => by cases h) (fun _ h => by cases h) (fun h => by cases h) (fun h => by cases h) hk0 hk0 hkk0 hkk0 (by simp [refKind]) (nI_pos (by omega)) (nI_pos (by omega)) (nI_pos hn)
    (by rw [nn 0 (by omega), nn n hn]; show ¬ _ > ((arrV (G.2 0) n0 (fun j => .int (f j))).slots.size : Int); rw [arrV_size]; omega)
    (by rw [nn 0 (by omega), nn n hn]; show ¬ _ > ((arrV (G.2 0) n1 (fun j => .int (g j))).slots.size : Int); rw [arrV_size]; omega)
    (fun vm₁ _ j hj => by
      rw [hc] at hj
      have e : (vp_cell (G.2 0) (n0, .inl f)).slots.getD ((nI 0).toNatClampNeg + j) .null = .int (f ((nI 0).toNatClampNeg + j)) := by
        show (arrV (G.2 0) n0 (fun j => .int (f j))).slots.getD _ _ = _
        rw [Array.getD_eq_getD_getElem?, arrV_read _ _ (by rw [hc0]; omega)]
        rfl
      refine ⟨?_, ?_⟩
      · rw [e]; rfl
      · rw [e]
        exact trivial)
    (g := F0 m pc ls (.int (nI n) :: .int (nI 0) :: .ref (B + i2) :: .int (nI 0) :: .ref (B + i) :: rest)) rfl (by rw [hml]) (rest := rest) rfl (by rw [hb]; exact hdg) hframes (by show 2 * 0 + _ + _ ≤ _; omega)
  have e1 : copied (vp_cell (G.2 0) (n0, .inl f)) (vp_cell (G.2 0) (n1, .inl g)) (nI 0) (nI 0) (nI n) = vp_cell (G.2 0) (n1, .inl (va_cpy f g (nI 0).toNatClampNeg (nI 0).toNatClampNeg (nI n).toNatClampNeg)) := va_copied (fun z => .int z) (G.2 0) (G.2 0) f g (by rw [hc, hc0]; omega)
  rw [hc, hc0] at e1
  rw [e1] at X' step
  have hl : B + i2 < H.size := (Array.getElem?_eq_some_iff.mp hc1).1
  have hheap : ((T.setVm vm').setCell (B + i2) (vp_cell (G.2 0) (n1, .inl (va_cpy f g 0 0 n)))).heap = H.setIfInBounds (B + i2) (vp_cell (G.2 0) (n1, .inl (va_cpy f g 0 0 n))) := by rw [← hT]; rfl
  have oq : ∀ q : Nat, q ≠ B + i2 → (H.setIfInBounds (B + i2) (vp_cell (G.2 0) (n1, .inl (va_cpy f g 0 0 n))))[q]? = H[q]? := fun q hq => by simp [Array.getElem?_setIfInBounds, Ne.symm hq]
  have hz : (H.setIfInBounds (B + i2) (vp_cell (G.2 0) (n1, .inl (va_cpy f g 0 0 n)))).size = H.size := by simp
  have hat : va_at G.1 vwCl (B + i2, kl_aI G n1 (va_cpy f g 0 0 n)) (H.setIfInBounds (B + i2) (vp_cell (G.2 0) (n1, .inl (va_cpy f g 0 0 n)))) := by
    show (H.setIfInBounds (B + i2) _)[B + i2]? = some _
    simp [Array.getElem?_setIfInBounds, hl]
  obtain ⟨t, a1, b1⟩ := kk _ _ _ kl_up_self (fun j hj => kl_up_ne hj) hz ⟨hP.1.put hz hat oq, ⟨by rw [hz]; exact hP.2.1.1, fun q hq => (oq q (by omega)).trans (hP.2.1.2 q hq)⟩, fun q hq => by
      rcases List.mem_append.mp hq with h | h
      · exact hP.2.2 q h
      · obtain ⟨z, -, hz⟩ := List.mem_map.mp h
        rw [← hz]
        exact Nat.le_add_right _ _⟩ _ hheap X'
  exact ⟨t, step t a1, b1⟩
theorem kl_n0 {x : Nat} (hx : x < 2 ^ 31) : nI x = 0 ↔ x = 0 := ⟨fun h => (nI_eq hx (by omega)).mp (h.trans nI_0.symm), fun h => by rw [h]; rfl⟩
theorem kl_nlt {x : Nat} (hx : x < 2 ^ 31) : ¬ nI x < 0 := nI_pos hx
theorem kl_nm1 {x : Nat} (hx : x < 2 ^ 31) : nI x ≠ -1 := fun h => nI_pos hx (by rw [h]; decide)
theorem kl_nle {x : Nat} (hx : x < 2 ^ 31) : nI x ≤ 0 ↔ x = 0 := by
  rw [← nI_0, nI_leI hx (by omega)]
  omega
theorem kl_z_eq (hexec : p.tables.exec = Jvm.exec) (hb : c.code = cc) {x : Nat} {off : Int} {tgt : Nat} (hx : x < 2 ^ 31) (hdg : decode cc pc = .ok (.ifCond .eq off, 3)) (ht : (pc : Int) + off = (tgt : Int)) (kt : x = 0 → W p l e R s m args below meth c H locs cells slots Q (F0 m tgt ls rest)) (kf : 0 < x → W p l e R s m args below meth c H locs cells slots Q (F0 m (pc + 3) ls rest)) : W p l e R s m args below meth c H locs cells slots Q (F0 m pc ls (.int (nI x) :: rest)) :=
  lv_if_eq hexec hb hdg ht (fun h => kt ((kl_n0 hx).mp h)) (fun h => kf (Nat.pos_of_ne_zero fun q => h ((kl_n0 hx).mpr q)))
theorem kl_z_ne (hexec : p.tables.exec = Jvm.exec) (hb : c.code = cc) {x : Nat} {off : Int} {tgt : Nat} (hx : x < 2 ^ 31) (hdg : decode cc pc = .ok (.ifCond .ne off, 3)) (ht : (pc : Int) + off = (tgt : Int)) (kt : 0 < x → W p l e R s m args below meth c H locs cells slots Q (F0 m tgt ls rest)) (kf : x = 0 → W p l e R s m args below meth c H locs cells slots Q (F0 m (pc + 3) ls rest)) : W p l e R s m args below meth c H locs cells slots Q (F0 m pc ls (.int (nI x) :: rest)) :=
  lv_if_ne hexec hb hdg ht (fun h => kt (Nat.pos_of_ne_zero fun q => h ((kl_n0 hx).mpr q))) (fun h => kf ((kl_n0 hx).mp h))
theorem kl_z_le (hexec : p.tables.exec = Jvm.exec) (hb : c.code = cc) {x : Nat} {off : Int} {tgt : Nat} (hx : x < 2 ^ 31) (hdg : decode cc pc = .ok (.ifCond .le off, 3)) (ht : (pc : Int) + off = (tgt : Int)) (kt : x = 0 → W p l e R s m args below meth c H locs cells slots Q (F0 m tgt ls rest)) (kf : 0 < x → W p l e R s m args below meth c H locs cells slots Q (F0 m (pc + 3) ls rest)) : W p l e R s m args below meth c H locs cells slots Q (F0 m pc ls (.int (nI x) :: rest)) :=
  lv_if_le hexec hb hdg ht (fun h => kt ((kl_nle hx).mp h)) (fun h => kf (Nat.pos_of_ne_zero fun q => h ((kl_nle hx).mpr q)))
theorem kl_z_gt (hexec : p.tables.exec = Jvm.exec) (hb : c.code = cc) {x : Nat} {off : Int} {tgt : Nat} (hx : x < 2 ^ 31) (hdg : decode cc pc = .ok (.ifCond .gt off, 3)) (ht : (pc : Int) + off = (tgt : Int)) (kt : 0 < x → W p l e R s m args below meth c H locs cells slots Q (F0 m tgt ls rest)) (kf : x = 0 → W p l e R s m args below meth c H locs cells slots Q (F0 m (pc + 3) ls rest)) : W p l e R s m args below meth c H locs cells slots Q (F0 m pc ls (.int (nI x) :: rest)) :=
  lv_if_gt hexec hb hdg ht (fun h => kt (Nat.pos_of_ne_zero fun q => by rw [q] at h; exact absurd h (by decide))) (fun h => kf (Nat.eq_zero_of_not_pos fun q => h (by rw [← nI_0]; exact (nI_ltI (by omega) hx).mpr q)))
theorem kl_z_lt (hexec : p.tables.exec = Jvm.exec) (hb : c.code = cc) {x : Nat} {off : Int} {tgt : Nat} (hx : x < 2 ^ 31) (hdg : decode cc pc = .ok (.ifCond .lt off, 3)) (ht : (pc : Int) + off = (tgt : Int)) (kf : W p l e R s m args below meth c H locs cells slots Q (F0 m (pc + 3) ls rest)) : W p l e R s m args below meth c H locs cells slots Q (F0 m pc ls (.int (nI x) :: rest)) :=
  lv_if_lt hexec hb hdg ht (fun h => absurd h (nI_pos hx)) (fun _ => kf)
theorem kl_z_ge (hexec : p.tables.exec = Jvm.exec) (hb : c.code = cc) {x : Nat} {off : Int} {tgt : Nat} (hx : x < 2 ^ 31) (hdg : decode cc pc = .ok (.ifCond .ge off, 3)) (ht : (pc : Int) + off = (tgt : Int)) (kt : W p l e R s m args below meth c H locs cells slots Q (F0 m tgt ls rest)) : W p l e R s m args below meth c H locs cells slots Q (F0 m pc ls (.int (nI x) :: rest)) :=
  lv_if_ge hexec hb hdg ht (fun _ => kt) (fun h => absurd (nI_pos' hx) h)
theorem kl_arr {i n : Nat} {f g : Nat → Int32} (hP : kl_S G B w H0 H locs) (he : w i = some (kl_aI G n f)) (h : ∀ j, j < n → f j = g j) : ∃ w1 : kl_M, w1 i = some (kl_aI G n g) ∧ (∀ j, j ≠ i → w1 j = w j) ∧ kl_S G B w1 H0 H locs := by
  refine ⟨kl_up w i (kl_aI G n g), kl_up_self, fun j hj => kl_up_ne hj, ⟨hP.1.1, fun j e hj => ?_⟩, hP.2⟩
  by_cases hji : j = i
  · subst hji
    rw [kl_up_self] at hj
    cases hj
    have h1 := hP.1.2 j _ he
    have h2 : vp_cell (G.2 0) (n, .inl f) = vp_cell (G.2 0) (n, .inl g) := by
      rw [vp_cell_i, vp_cell_i]
      unfold arrV
      congr 2
      funext k
      exact congrArg Value.int (h k.val k.isLt)
    show H[B + j]? = some (vp_cell _ _)
    rw [← h2]
    exact h1
  · rw [kl_up_ne hji] at hj
    exact hP.1.2 j e hj
end KLC
