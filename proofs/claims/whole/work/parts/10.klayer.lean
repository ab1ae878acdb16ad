/-! The world as a map from places (counted from B on) to what lies there; rows over it. -/
abbrev kl_M : Type := Nat → Option va_E
abbrev kl_G : Type := va_G × (Nat → ClassId)
def kl_P (G : kl_G) (B : Nat) (w : kl_M) (H : Heap) : Prop := B ≤ H.size ∧ ∀ (i : Nat) (e : va_E), w i = some e → va_at G.1 vwCl (B + i, e) H
def kl_F (B : Nat) (H0 H : Heap) : Prop := H0.size ≤ H.size ∧ ∀ q : Nat, q < B → H[q]? = H0[q]?
def kl_S (G : kl_G) (B : Nat) (w : kl_M) (H0 H : Heap) (locs : List Loc) : Prop := kl_P G B w H ∧ kl_F B H0 H ∧ ∀ z ∈ locs, B ≤ z.base
def kl_T (c : Nat → ClassId) : List (ClassId × FieldType) := [(c 0, .int), (c 1, .boolean), (c 2, .long), (c 3, .object RX1), (c 4, .object RX3), (c 5, .object RX0), (c 6, .object RX2)]
/-- what else the tables say: casts that hold, casts that don't, arrays of the own classes -/
def kl_cp : List (String × String) := [("[I", "java/lang/Cloneable"), ("java/lang/IllegalArgumentException", "java/lang/IllegalArgumentException"), ("java/util/NoSuchElementException", "java/util/NoSuchElementException"), ("java/lang/IllegalStateException", "java/lang/IllegalStateException"), ("java/lang/IndexOutOfBoundsException", "java/lang/IndexOutOfBoundsException")]
def kl_np : List (String × String) := [("java/util/NoSuchElementException", "java/lang/IllegalArgumentException"), ("java/lang/IllegalStateException", "java/lang/IllegalArgumentException"), ("java/lang/IllegalStateException", "java/util/NoSuchElementException"), ("java/lang/IndexOutOfBoundsException", "java/lang/IllegalArgumentException")]
def kl_dn : List String := ["java/lang/RuntimeException", "java/lang/Exception", "java/lang/Throwable"]
def kl_N (U : State) : Prop := (∀ q ∈ kl_cp, va_Nw (.castable q.1 q.2) U) ∧ (∀ q ∈ kl_np, va_Nc q.1 q.2 U) ∧ (∀ C ∈ [RX0, RX1, RX2, RX3], va_AO C U) ∧ ∀ n ∈ kl_dn, va_Nw (.declares (Bundle.init0 n)) U
theorem kl_Nc_moved {C T : String} {u U : State} (hvm : u.vm.Alike U.vm) (h : va_Nc C T u) : va_Nc C T U := by
  obtain ⟨c, t, h1, h2, h3⟩ := h
  exact ⟨c, t, by rw [hvm.findClass]; exact h1, by rw [hvm.findClass]; exact h2, by rw [hvm.assignable]; exact h3⟩
theorem kl_N.warm {s U : State} (hW : s.WarmedH U.vm) (h : kl_N s) : kl_N U := ⟨fun q hq => va_Nw.warmC hW (h.1 q hq), fun q hq => kl_Nc_moved hW.alike (h.2.1 q hq), fun C hC => va_AO.moved hW.alike (h.2.2.1 C hC), fun n hn => va_Nw.warmD hW (h.2.2.2 n hn)⟩
theorem kl_N.same {u U : State} (e : u.vm = U.vm) (h : kl_N u) : kl_N U := ⟨fun q hq => va_Nw.same rfl e (h.1 q hq), fun q hq => kl_Nc_moved (by rw [e]; exact Vm.Alike.refl _) (h.2.1 q hq), fun C hC => va_AO.moved (by rw [e]; exact Vm.Alike.refl _) (h.2.2.1 C hC), fun n hn => va_Nw.same rfl e (h.2.2.2 n hn)⟩
def kl_K (G : kl_G) (U : State) : Prop := va_K G.1 vwCl (kl_T G.2) U ∧ kl_N U
theorem kl_K.warm {G : kl_G} {s U : State} (hW : s.WarmedH U.vm) (h : kl_K G s) : kl_K G U := ⟨va_K.moved hW.alike h.1, h.2.warm hW⟩
theorem kl_K.same {G : kl_G} {u U : State} (e : u.vm = U.vm) (h : kl_K G u) : kl_K G U := ⟨va_K.moved (by rw [e]; exact Vm.Alike.refl _) h.1, h.2.same e⟩
/-- the statics that a throw reads -/
def kl_Z (B : Nat) (U : State) (H : Heap) : Prop := vx_Zq Bundle.tN "UNASSIGNED_STACK" Bundle.steD (fun q => B ≤ q) U H ∧ vx_Zq Bundle.tN "SUPPRESSED_SENTINEL" Bundle.listD (fun q => B ≤ q) U H
theorem kl_Z.moved {B : Nat} {u U : State} {H : Heap} (hvm : u.vm.Alike U.vm) (h : kl_Z B u H) : kl_Z B U H := ⟨h.1.moved hvm, h.2.moved hvm⟩
def kl_up (w : kl_M) (k : Nat) (e : va_E) : kl_M := fun j => if j = k then some e else w j
abbrev kl_aI (G : kl_G) (n : Nat) (f : Nat → Int32) : va_E := .inl (G.2 0, n, .inl f)
abbrev kl_aZ (G : kl_G) (n : Nat) (f : Nat → Int32) : va_E := .inl (G.2 1, n, .inl f)
abbrev kl_aL (G : kl_G) (n : Nat) (f : Nat → Int64) : va_E := .inl (G.2 2, n, .inr (.inl f))
abbrev kl_aR (G : kl_G) (k n : Nat) (f : Nat → Option Nat) : va_E := .inl (G.2 k, n, .inr (.inr (.inr (.inr f))))
theorem kl_up_self {w : kl_M} {k : Nat} {e : va_E} : kl_up w k e k = some e := by simp [kl_up]
theorem kl_up_ne {w : kl_M} {k j : Nat} {e : va_E} (h : j ≠ k) : kl_up w k e j = w j := by simp [kl_up, h]
theorem kl_F.rf {B : Nat} {H : Heap} : kl_F B H H := ⟨Nat.le_refl _, fun _ _ => rfl⟩
theorem kl_F.tr {B : Nat} {H0 H1 H2 : Heap} (h : kl_F B H0 H1) (h2 : kl_F B H1 H2) : kl_F B H0 H2 := ⟨Nat.le_trans h.1 h2.1, fun q hq => (h2.2 q hq).trans (h.2 q hq)⟩
theorem kl_Z.kept {B : Nat} {U : State} {H H1 : Heap} (hF : kl_F B H H1) (h : kl_Z B U H) : kl_Z B U H1 := ⟨h.1.kept (fun a _ hn => hF.2 a (Nat.not_le.mp hn)), h.2.kept (fun a _ hn => hF.2 a (Nat.not_le.mp hn))⟩
theorem kl_S.rf {G : kl_G} {B : Nat} {w : kl_M} {H : Heap} (h : kl_P G B w H) : kl_S G B w H H [] := ⟨h, kl_F.rf, fun _ h => by cases h⟩
theorem kl_S.one {G : kl_G} {B : Nat} {w : kl_M} {H0 H : Heap} {locs : List Loc} (h : kl_S G B w H0 H locs) {i : Nat} {e : va_E} (he : w i = some e) : va_P G.1 vwCl [(B + i, e)] H := by
  intro k q hk
  have hz : k < 1 := (List.getElem?_eq_some_iff.mp hk).1
  obtain rfl : k = 0 := by omega
  cases hk
  exact h.1.2 i e he
theorem kl_S.lt {G : kl_G} {B : Nat} {w : kl_M} {H0 H : Heap} {locs : List Loc} (h : kl_S G B w H0 H locs) {i : Nat} {e : va_E} (he : w i = some e) : B + i < H.size := (h.1.2 i e he).lt
theorem kl_P.put {G : kl_G} {B : Nat} {w : kl_M} {H H1 : Heap} (h : kl_P G B w H) {i : Nat} {e : va_E} (z : H1.size = H.size) (he : va_at G.1 vwCl (B + i, e) H1) (oq : ∀ q : Nat, q ≠ B + i → H1[q]? = H[q]?) : kl_P G B (kl_up w i e) H1 := by
  refine ⟨by rw [z]; exact h.1, fun j e2 hj => ?_⟩
  by_cases hji : j = i
  · subst hji
    rw [kl_up_self] at hj
    cases hj
    exact he
  · rw [kl_up_ne hji] at hj
    exact (h.2 j e2 hj).kept (oq (B + j) (by omega))
theorem kl_S.put {G : kl_G} {B : Nat} {w : kl_M} {H0 H H1 : Heap} {locs : List Loc} (h : kl_S G B w H0 H locs) {i k : Nat} {e : va_E} (z : H1.size = H.size) (he : va_at G.1 vwCl (B + i, e) H1) (oq : ∀ q : Nat, q ≠ B + i → H1[q]? = H[q]?) : kl_S G B (kl_up w i e) H0 H1 (locs ++ [⟨B + i, k⟩]) := by
  refine ⟨h.1.put z he oq, ⟨by rw [z]; exact h.2.1.1, fun q hq => (oq q (by omega)).trans (h.2.1.2 q hq)⟩, fun q hq => ?_⟩
  rcases List.mem_append.mp hq with hq | hq
  · exact h.2.2 q hq
  · rcases List.mem_singleton.mp hq with rfl
    exact Nat.le_add_right _ _
theorem kl_S.push {G : kl_G} {B : Nat} {w : kl_M} {H0 H H1 : Heap} {locs : List Loc} (h : kl_S G B w H0 H locs) {i : Nat} {e : va_E} (hi : H.size = B + i) (z : H1.size = H.size + 1) (he : va_at G.1 vwCl (B + i, e) H1) (oq : ∀ q : Nat, q < H.size → H1[q]? = H[q]?) : kl_S G B (kl_up w i e) H0 H1 locs := by
  refine ⟨⟨by have := h.1.1; omega, fun j e2 hj => ?_⟩, ⟨by have := h.2.1.1; omega, fun q hq => (oq q (by have := h.1.1; omega)).trans (h.2.1.2 q hq)⟩, h.2.2⟩
  by_cases hji : j = i
  · subst hji
    rw [kl_up_self] at hj
    cases hj
    exact he
  · rw [kl_up_ne hji] at hj
    exact (h.1.2 j e2 hj).kept (oq (B + j) (h.1.2 j e2 hj).lt)
theorem kl_S.trans {G : kl_G} {B : Nat} {w w1 : kl_M} {H0 H H1 : Heap} {locs L : List Loc} (h : kl_S G B w H0 H locs) (hP : kl_P G B w1 H1) (hF : kl_F B H H1) (hL : ∀ z ∈ L, B ≤ z.base) : kl_S G B w1 H0 H1 (locs ++ L) :=
  ⟨hP, h.2.1.tr hF, fun q hq => (List.mem_append.mp hq).elim (h.2.2 q) (hL q)⟩
section KLR
variable {p : Program} {l : Launch} {e : Env} {R : Room} {s : State} {m : MethodId} {args : Array Value} {below : List Frame} {meth : Method} {c : Code} {H : Heap} {locs : List Loc} {cells slots : Nat} {Q : State → Prop}
variable {cc : ByteArray} {pc : Nat} {ls : Array Slot} {rest : List Value} {G : kl_G} {B : Nat} {w : kl_M} {H0 : Heap} {i : Nat}
theorem kl_get (hexec : p.tables.exec = Jvm.exec) (hb : c.code = cc) {own2 ref C : String} {T : u_T} {N ci index : Nat} {Ts : List Cond} (hts : ∀ w ∈ Ts, w.before args s = true) (hin : ∀ w ∈ u_ws C T N, w ∈ Ts) (hown2 : s.vm.findClass own2 = some m.cls) (hK : kl_K G s) (hP : kl_S G B w H0 H locs) {fs : List Value} (he : w i = some (.inr (ci, fs))) (hc : vwCl[ci]? = some (C, T, N)) (k : Nat) (hk : k < N) (hlink : (Cond.fieldLink own2 index ref (T k).2.1 (T k).2.2.1).before args s = true) (hsame : ∀ x, s.fieldFound? (T k).1 (T k).2.1 (T k).2.2.1 = some x → s.fieldFound? ref (T k).2.1 (T k).2.2.1 = some x) {v : Value} (hv : fs[k]? = some v) (hdg : decode cc pc = .ok (.getfield index, 3))
    (kk : W p l e R s m args below meth c H locs cells slots Q (F0 m (pc + 3) ls (v :: rest))) : W p l e R s m args below meth c H locs cells slots Q (F0 m pc ls (.ref (B + i) :: rest)) :=
  va_get hexec hb hts hin hown2 hK.1 (hP.one he) 0 rfl hc k hk hlink hsame hv hdg kk
theorem kl_put (hexec : p.tables.exec = Jvm.exec) (hb : c.code = cc) {own ref C : String} {T : u_T} {N ci index : Nat} {Ts : List Cond} (hts : ∀ w ∈ Ts, w.before args s = true) (hin : ∀ w ∈ u_ws C T N, w ∈ Ts) (ty0 : Nat → FieldType) (hty : ∀ k, k < N → parseFieldDescriptor (T k).2.2.1 = some (ty0 k)) (hnm : ∀ a, a < N → ∀ b, b < N → a ≠ b → (T a).2.1 ≠ (T b).2.1) (hown : s.vm.findClass own = some m.cls) (hK : kl_K G s) (hP : kl_S G B w H0 H locs) {fs : List Value} (he : w i = some (.inr (ci, fs))) (hc : vwCl[ci]? = some (C, T, N)) (k : Nat) (hk : k < N) (hlink : (Cond.fieldLink own index ref (T k).2.1 (T k).2.2.1).before args s = true) (hsame : ∀ x, s.fieldFound? (T k).1 (T k).2.1 (T k).2.2.1 = some x → s.fieldFound? ref (T k).2.1 (T k).2.2.1 = some x) (hfin : (T k).2.2.2 = false) {ty : FieldType} {v : Value} (hd : parseFieldDescriptor (T k).2.2.1 = some ty) (hn : narrow ty v = v) (hfit : fits ty v = true) (hl : k < fs.length)
    (hdg : decode cc pc = .ok (.putfield index, 3)) (kk : ∀ (w1 : kl_M) (H1 : Heap) (locs1 : List Loc), w1 i = some (.inr (ci, fs.set k v)) → (∀ j, j ≠ i → w1 j = w j) → H1.size = H.size → kl_S G B w1 H0 H1 locs1 → W p l e R s m args below meth c H1 locs1 cells slots Q (F0 m (pc + 3) ls rest)) : W p l e R s m args below meth c H locs cells slots Q (F0 m pc ls (v :: .ref (B + i) :: rest)) := by
  have hap := va_apart (own := own) hts hin ty0 hty hnm hK.1 hc
  obtain ⟨r, h1, cell, q1, q2, q3, q4⟩ := hP.1.2 i _ he
  have hr : r = (C, T, N) := Option.some.inj (h1.symm.trans hc)
  subst hr
  obtain ⟨hS, hfc, kC, hkC, hkind⟩ := hK.1.1 ci _ hc
  obtain ⟨cf, kf, fi, f, hi, hsl⟩ := hS k hk
  have hlay := hts _ (hin _ (u_in_lay hk))
  unfold u_lay at hlay
  rw [if_neg (by rw [hfin]; decide)] at hlay
  have hst := (u_facts hfc hkC (u_lays hts hin hk) hi).1
  have h6 := u_store hfc hkC hkind hlay hi hd hn hfit
  refine W.putK hexec hb (f := f) ⟨hown, hlink, ⟨_, _, _, hsame _ hi⟩, hst⟩ (by rw [q2]; exact h6) q1 q3 (by rw [hsl]; exact k2_hasslot (q4 k hk)) rfl rfl hdg fun H' e1 e2 e3 => ?_
  rw [hsl] at e1 ⊢
  exact kk _ H' _ kl_up_self (fun j hj => kl_up_ne hj) e2 (hP.put e2 ⟨_, hc, t_OB.to (V := updV (vp_V fs) k v) ⟨_, e1, q2, q3, t_set q4 hap hk v⟩ (fun j _ => vp_updV_set hl v j)⟩ e3)
theorem kl_putF (hexec : p.tables.exec = Jvm.exec) (hb : c.code = cc) {own ref C : String} {T : u_T} {N ci index : Nat} {Ts : List Cond} (hts : ∀ w ∈ Ts, w.before args s = true) (hin : ∀ w ∈ u_ws C T N, w ∈ Ts) (ty0 : Nat → FieldType) (hty : ∀ k, k < N → parseFieldDescriptor (T k).2.2.1 = some (ty0 k)) (hnm : ∀ a, a < N → ∀ b, b < N → a ≠ b → (T a).2.1 ≠ (T b).2.1) (hown : s.vm.findClass own = some m.cls) (hK : kl_K G s) (hP : kl_S G B w H0 H locs) {fs : List Value} (he : w i = some (.inr (ci, fs))) (hc : vwCl[ci]? = some (C, T, N)) (k : Nat) (hk : k < N) (hlink : (Cond.fieldLink own index ref (T k).2.1 (T k).2.2.1).before args s = true) (hsame : ∀ x, s.fieldFound? (T k).1 (T k).2.1 (T k).2.2.1 = some x → s.fieldFound? ref (T k).2.1 (T k).2.2.1 = some x) (hfin : (T k).2.2.2 = true) (hin2 : meth.name = "<init>") (hdecl : (T k).1 = own) {ty : FieldType} {v : Value} (hd : parseFieldDescriptor (T k).2.2.1 = some ty) (hn : narrow ty v = v) (hfit : fits ty v = true) (hl : k < fs.length)
    (hdg : decode cc pc = .ok (.putfield index, 3)) (kk : ∀ (w1 : kl_M) (H1 : Heap) (locs1 : List Loc), w1 i = some (.inr (ci, fs.set k v)) → (∀ j, j ≠ i → w1 j = w j) → H1.size = H.size → kl_S G B w1 H0 H1 locs1 → W p l e R s m args below meth c H1 locs1 cells slots Q (F0 m (pc + 3) ls rest)) : W p l e R s m args below meth c H locs cells slots Q (F0 m pc ls (v :: .ref (B + i) :: rest)) := by
  have hap := va_apart (own := own) hts hin ty0 hty hnm hK.1 hc
  obtain ⟨r, h1, cell, q1, q2, q3, q4⟩ := hP.1.2 i _ he
  have hr : r = (C, T, N) := Option.some.inj (h1.symm.trans hc)
  subst hr
  obtain ⟨hS, hfc, kC, hkC, hkind⟩ := hK.1.1 ci _ hc
  obtain ⟨cf, kf, fi, f, hi, hsl⟩ := hS k hk
  have hlay := hts _ (hin _ (u_in_lay hk))
  unfold u_lay at hlay
  rw [if_pos hfin] at hlay
  have hst := (u_facts hfc hkC (u_lays hts hin hk) hi).1
  have hcf : m.cls = cf := by
    obtain ⟨_, _, c', _, _, _, -, -, hf', -, -, -, hown2, -⟩ := Cond.laysFinal_spec hlay
    have e1 : c' = cf := by have := hi.symm.trans hf'; simp at this; exact this.1.symm
    rw [hdecl] at hown2
    rw [← e1]; exact Option.some.inj (hown.symm.trans hown2)
  have h6 := u_fits hfc hkC hkind (Or.inr hlay) hi hd hn hfit
  refine W.putFinK hexec hb hown hlink (hsame _ hi) hst hcf hin2 (by rw [q2]; exact h6) q1 q3 (by rw [hsl]; exact k2_hasslot (q4 k hk)) rfl rfl hdg fun H' e1 e2 e3 => ?_
  rw [hsl] at e1 ⊢
  exact kk _ H' _ kl_up_self (fun j hj => kl_up_ne hj) e2 (hP.put e2 ⟨_, hc, t_OB.to (V := updV (vp_V fs) k v) ⟨_, e1, q2, q3, t_set q4 hap hk v⟩ (fun j _ => vp_updV_set hl v j)⟩ e3)
theorem kl_ix {j n : Nat} (h : j < n) (hn : n < 2 ^ 31) : vp_in (nI j) n := vp_in_nI h hn
theorem kl_cl {j n : Nat} (h : j < n) (hn : n < 2 ^ 31) : (nI j).toNatClampNeg = j := nI_clamp (Nat.lt_trans h hn)
theorem kl_iald (hexec : p.tables.exec = Jvm.exec) (hb : c.code = cc) (hK : kl_K G s) (hP : kl_S G B w H0 H locs) {n : Nat} {f : Nat → Int32} (he : w i = some (kl_aI G n f)) {j : Nat} (hj : j < n) (hn : n < 2 ^ 31) (hdg : decode cc pc = .ok (.iaload, 1))
    (kk : W p l e R s m args below meth c H locs cells slots Q (F0 m (pc + 1) ls (.int (f j) :: rest))) : W p l e R s m args below meth c H locs cells slots Q (F0 m pc ls (.int (nI j) :: .ref (B + i) :: rest)) := by
  refine va_iald hexec hb hK.1 (hP.one he) 0 0 rfl rfl (kl_ix hj hn) hdg ?_
  rw [kl_cl hj hn]
  exact kk
theorem kl_zald (hexec : p.tables.exec = Jvm.exec) (hb : c.code = cc) (hK : kl_K G s) (hP : kl_S G B w H0 H locs) {n : Nat} {f : Nat → Int32} (he : w i = some (kl_aZ G n f)) {j : Nat} (hj : j < n) (hn : n < 2 ^ 31) (hdg : decode cc pc = .ok (.baload, 1))
    (kk : W p l e R s m args below meth c H locs cells slots Q (F0 m (pc + 1) ls (.int (f j) :: rest))) : W p l e R s m args below meth c H locs cells slots Q (F0 m pc ls (.int (nI j) :: .ref (B + i) :: rest)) := by
  refine va_zald hexec hb hK.1 (hP.one he) 0 1 rfl rfl (kl_ix hj hn) hdg ?_
  rw [kl_cl hj hn]
  exact kk
theorem kl_lald (hexec : p.tables.exec = Jvm.exec) (hb : c.code = cc) (hK : kl_K G s) (hP : kl_S G B w H0 H locs) {n : Nat} {f : Nat → Int64} (he : w i = some (kl_aL G n f)) {j : Nat} (hj : j < n) (hn : n < 2 ^ 31) (hdg : decode cc pc = .ok (.laload, 1))
    (kk : W p l e R s m args below meth c H locs cells slots Q (F0 m (pc + 1) ls (.long (f j) :: rest))) : W p l e R s m args below meth c H locs cells slots Q (F0 m pc ls (.int (nI j) :: .ref (B + i) :: rest)) := by
  refine va_lald hexec hb hK.1 (hP.one he) 0 2 rfl rfl (kl_ix hj hn) hdg ?_
  rw [kl_cl hj hn]
  exact kk
theorem kl_aald (hexec : p.tables.exec = Jvm.exec) (hb : c.code = cc) (hK : kl_K G s) (hP : kl_S G B w H0 H locs) (t0 : Nat) {C : String} {n k0 : Nat} {f : Nat → Option Nat} (he : w i = some (kl_aR G k0 n f)) (ht : (kl_T G.2)[t0]? = some (G.2 k0, .object C)) {j : Nat} (hj : j < n) (hn : n < 2 ^ 31) {a : Nat} (hf : f j = some a) (hdg : decode cc pc = .ok (.aaload, 1))
    (kk : W p l e R s m args below meth c H locs cells slots Q (F0 m (pc + 1) ls (.ref a :: rest))) : W p l e R s m args below meth c H locs cells slots Q (F0 m pc ls (.int (nI j) :: .ref (B + i) :: rest)) := by
  refine va_aldq hexec hb hK.1 (hP.one he) 0 t0 rfl ht (kl_ix hj hn) hdg ?_
  rw [kl_cl hj hn, hf]
  exact kk
theorem kl_alen (hexec : p.tables.exec = Jvm.exec) (hb : c.code = cc) (hK : kl_K G s) (hP : kl_S G B w H0 H locs) (t0 : Nat) {k0 : Nat} {x : vp_A} {ty : FieldType} (he : w i = some (.inl (G.2 k0, x))) (ht : (kl_T G.2)[t0]? = some (G.2 k0, ty)) (hdg : decode cc pc = .ok (.arraylength, 1))
    (kk : W p l e R s m args below meth c H locs cells slots Q (F0 m (pc + 1) ls (.int (nI x.1) :: rest))) : W p l e R s m args below meth c H locs cells slots Q (F0 m pc ls (.ref (B + i) :: rest)) :=
  va_alen hexec hb hK.1 (hP.one he) 0 t0 rfl ht rfl hdg kk
theorem kl_iast (hexec : p.tables.exec = Jvm.exec) (hb : c.code = cc) (hK : kl_K G s) (hP : kl_S G B w H0 H locs) {n : Nat} {f : Nat → Int32} (he : w i = some (kl_aI G n f)) {j : Nat} (hj : j < n) (hn : n < 2 ^ 31) {x : Int32} (hdg : decode cc pc = .ok (.iastore, 1))
    (kk : ∀ (w1 : kl_M) (H1 : Heap) (locs1 : List Loc), w1 i = some (kl_aI G n (upd f j x)) → (∀ j, j ≠ i → w1 j = w j) → H1.size = H.size → kl_S G B w1 H0 H1 locs1 → W p l e R s m args below meth c H1 locs1 cells slots Q (F0 m (pc + 1) ls rest)) : W p l e R s m args below meth c H locs cells slots Q (F0 m pc ls (.int x :: .int (nI j) :: .ref (B + i) :: rest)) := by
  have hin : vp_in (nI j) n := kl_ix hj hn
  refine W.iast hexec hb (hP.1.2 i _ he) ((hK.1.2 0 (G.2 0, .int) rfl).1 n (fun j => .int (f j))) (fun q => by cases q) (by show ¬ (nI j < 0 ∨ (arrV _ _ _).slots.size ≤ _); rw [arrV_size]; exact hin) rfl rfl hdg fun H1 e z oq => ?_
  refine kk _ H1 _ kl_up_self (fun j hj => kl_up_ne hj) z (hP.put z ?_ oq)
  show H1[B + i]? = some (vp_cell _ _)
  rw [e]
  rw [vp_cell_i, vp_cell_i, arrV_store, kl_cl hj hn]
  congr 2
  funext q
  by_cases hq : q = j
  · subst hq
    simp [updV, upd]
  · simp [updV, upd, hq]
theorem kl_zast (hexec : p.tables.exec = Jvm.exec) (hb : c.code = cc) (hK : kl_K G s) (hP : kl_S G B w H0 H locs) {n : Nat} {f : Nat → Int32} (he : w i = some (kl_aZ G n f)) {j : Nat} (hj : j < n) (hn : n < 2 ^ 31) {x y : Int32} (hx : vp_nar .boolean x = y) (hdg : decode cc pc = .ok (.bastore, 1))
    (kk : ∀ (w1 : kl_M) (H1 : Heap) (locs1 : List Loc), w1 i = some (kl_aZ G n (upd f j y)) → (∀ j, j ≠ i → w1 j = w j) → H1.size = H.size → kl_S G B w1 H0 H1 locs1 → W p l e R s m args below meth c H1 locs1 cells slots Q (F0 m (pc + 1) ls rest)) : W p l e R s m args below meth c H locs cells slots Q (F0 m pc ls (.int x :: .int (nI j) :: .ref (B + i) :: rest)) := by
  have hin : vp_in (nI j) n := kl_ix hj hn
  subst hx
  refine W.zast hexec hb (hP.1.2 i _ he) ((hK.1.2 1 (G.2 1, .boolean) rfl).1 n (fun j => .int (f j))) (fun q => by cases q) (by show ¬ (nI j < 0 ∨ (arrV _ _ _).slots.size ≤ _); rw [arrV_size]; exact hin) rfl rfl hdg fun H1 e z oq => ?_
  refine kk _ H1 _ kl_up_self (fun j hj => kl_up_ne hj) z (hP.put z ?_ oq)
  show H1[B + i]? = some (vp_cell _ _)
  rw [e]
  rw [vp_cell_i, vp_cell_i, arrV_store, kl_cl hj hn]
  congr 2
  funext q
  by_cases hq : q = j
  · subst hq
    simp [updV, upd, vp_nar]
    try rfl
  · simp [updV, upd, hq]
theorem kl_last (hexec : p.tables.exec = Jvm.exec) (hb : c.code = cc) (hK : kl_K G s) (hP : kl_S G B w H0 H locs) {n : Nat} {f : Nat → Int64} (he : w i = some (kl_aL G n f)) {j : Nat} (hj : j < n) (hn : n < 2 ^ 31) {x : Int64} (hdg : decode cc pc = .ok (.lastore, 1))
    (kk : ∀ (w1 : kl_M) (H1 : Heap) (locs1 : List Loc), w1 i = some (kl_aL G n (vp_updL f j x)) → (∀ j, j ≠ i → w1 j = w j) → H1.size = H.size → kl_S G B w1 H0 H1 locs1 → W p l e R s m args below meth c H1 locs1 cells slots Q (F0 m (pc + 1) ls rest)) : W p l e R s m args below meth c H locs cells slots Q (F0 m pc ls (.long x :: .int (nI j) :: .ref (B + i) :: rest)) := by
  have hin : vp_in (nI j) n := kl_ix hj hn
  refine W.last hexec hb (hP.1.2 i _ he) ((hK.1.2 2 (G.2 2, .long) rfl).1 n (fun j => .long (f j))) (fun q => by cases q) (by show ¬ (nI j < 0 ∨ (arrV _ _ _).slots.size ≤ _); rw [arrV_size]; exact hin) rfl rfl hdg fun H1 e z oq => ?_
  refine kk _ H1 _ kl_up_self (fun j hj => kl_up_ne hj) z (hP.put z ?_ oq)
  show H1[B + i]? = some (vp_cell _ _)
  rw [e]
  rw [vp_cell_l, vp_cell_l, arrV_store, kl_cl hj hn]
  congr 2
  funext q
  by_cases hq : q = j
  · subst hq
    simp [updV, vp_updL]
  · simp [updV, vp_updL, hq]
theorem kl_aast (hexec : p.tables.exec = Jvm.exec) (hb : c.code = cc) (hK : kl_K G s) (hP : kl_S G B w H0 H locs) (t0 ci : Nat) {r : vw_C} {n k0 v : Nat} {vs : List Value} {f : Nat → Option Nat} (he : w i = some (kl_aR G k0 n f)) (ht : (kl_T G.2)[t0]? = some (G.2 k0, .object r.1)) (hv : w v = some (.inr (ci, vs))) (hc : vwCl[ci]? = some r) {j : Nat} (hj : j < n) (hn : n < 2 ^ 31) (hdg : decode cc pc = .ok (.aastore, 1))
    (kk : ∀ (w1 : kl_M) (H1 : Heap) (locs1 : List Loc), w1 i = some (kl_aR G k0 n (va_up f j (some (B + v)))) → (∀ j, j ≠ i → w1 j = w j) → H1.size = H.size → kl_S G B w1 H0 H1 locs1 → W p l e R s m args below meth c H1 locs1 cells slots Q (F0 m (pc + 1) ls rest)) : W p l e R s m args below meth c H locs cells slots Q (F0 m pc ls (.ref (B + v) :: .int (nI j) :: .ref (B + i) :: rest)) := by
  have hin : vp_in (nI j) n := kl_ix hj hn
  have hlt : (nI j).toNatClampNeg < n := Nat.not_le.mp fun q => hin (Or.inr q)
  have h0 : ¬ nI j < 0 := fun q => hin (Or.inl q)
  obtain ⟨r', hr', cellV, g1, g2, g3, -⟩ := hP.1.2 v _ hv
  have hcls := (hK.1.1 ci r hc).2
  obtain ⟨kA, comp, k1, k2, k3, -⟩ := (hK.1.2 t0 _ ht).2
  have hcomp : comp = G.1.1 ci := Option.some.inj (k3.symm.trans hcls.1)
  subst hcomp
  obtain ⟨kC, hkC, -⟩ := hcls.2
  refine W.aast hexec hb (hP.1.2 i _ he) (fun q h => by cases h) (fun h => by cases h) k1 k2 rfl hkC ⟨h0, by show _ < (arrV _ _ _).slots.size; rw [arrV_size]; exact hlt⟩ g1 (fun q h => by rw [g3] at h; cases h) (by rw [g2]; exact hkC) (by rw [g2]; exact va_assign hcls) rfl rfl hdg fun H1 e z oq => ?_
  refine kk _ H1 _ kl_up_self (fun j hj => kl_up_ne hj) z (hP.put z ?_ oq)
  show H1[B + i]? = some (vp_cell _ _)
  rw [e]
  rw [vp_cell_q, vp_cell_q, arrV_store, kl_cl hj hn]
  congr 2
  funext q
  by_cases hq : q = j
  · subst hq
    simp [updV, va_up, va_rf]
  · simp [updV, va_up, hq]
theorem kl_new (hexec : p.tables.exec = Jvm.exec) (hb : c.code = cc) {own C : String} {T : u_T} {N ci index : Nat} {Ts : List Cond} (hts : ∀ w ∈ Ts, w.before args s = true) (hin : ∀ w ∈ u_ws C T N, w ∈ Ts) (ty : Nat → FieldType) (hty : ∀ k, k < N → parseFieldDescriptor (T k).2.2.1 = some (ty k)) (hown : s.vm.findClass own = some m.cls) (hcl : (Cond.classLink own index C).before args s = true) (hinst : (Cond.instantiable C N).before args s = true) (hini : (Cond.initialized C).before args s = true)
    (hK : kl_K G s) (hP : kl_S G B w H0 H locs) (hc : vwCl[ci]? = some (C, T, N)) {fs : List Value} (hfs : ∀ j, j < N → defaultValue (ty j) = vp_V fs j) (hcells : cells + 1 ≤ R.cells) (hslots : slots + N ≤ R.slots) (hdg : decode cc pc = .ok (.new index, 3))
    (kk : ∀ (q : Nat) (w1 : kl_M) (H1 : Heap), H.size = B + q → w1 q = some (.inr (ci, fs)) → (∀ j, j ≠ q → w1 j = w j) → H1.size = H.size + 1 → kl_S G B w1 H0 H1 locs →
      W p l e R s m args below meth c H1 locs (cells + 1) (slots + N) Q (F0 m (pc + 3) ls (.ref (B + q) :: rest))) : W p l e R s m args below meth c H locs cells slots Q (F0 m pc ls rest) := by
  have hKn := hK.1.1 ci _ hc
  obtain ⟨q, hq⟩ : ∃ q, H.size = B + q := ⟨H.size - B, by have := hP.1.1; omega⟩
  refine W.newcK hexec hb hown hcl hinst hini rfl hdg hcells hslots hKn.2.1 hq fun H1 kC hkC e1 z1 o1 => ?_
  exact kk q _ H1 hq kl_up_self (fun j hj => kl_up_ne hj) (by omega) (hP.push hq (by omega) ⟨_, hc, (u_born ty hts hin hKn hkC e1 hty).to hfs⟩ (fun x hx => o1 x (by omega)))
theorem kl_newI (hexec : p.tables.exec = Jvm.exec) (hb : c.code = cc) (harr : (Cond.arrayClass .int).before args s = true) (hK : kl_K G s) (hP : kl_S G B w H0 H locs) {n : Nat} (hn : n < 2 ^ 20) (hcells : cells + 1 ≤ R.cells) (hslots : slots + n ≤ R.slots) (hdg : decode cc pc = .ok (.newarray .int, 2))
    (kk : ∀ (q : Nat) (w1 : kl_M) (H1 : Heap), H.size = B + q → w1 q = some (kl_aI G n (fun _ => 0)) → (∀ j, j ≠ q → w1 j = w j) → H1.size = H.size + 1 → kl_S G B w1 H0 H1 locs →
      W p l e R s m args below meth c H1 locs (cells + 1) (slots + n) Q (F0 m (pc + 2) ls (.ref (B + q) :: rest))) : W p l e R s m args below meth c H locs cells slots Q (F0 m pc ls (.int (nI n) :: rest)) := by
  obtain ⟨q, hq⟩ : ∃ q, H.size = B + q := ⟨H.size - B, by have := hP.1.1; omega⟩
  refine va_newaK (atype := .int) hexec hb harr rfl hdg rfl (nI_pos (by omega)) (nI_clamp (by omega)) (by show n * 4 ≤ 536870912; omega) hcells hslots hq fun H1 cA e1 z1 o1 hAr hNm => ?_
  have hcA : cA = G.2 0 := Option.some.inj (hNm.symm.trans (hK.1.2 0 (G.2 0, .int) rfl).2)
  subst hcA
  exact kk q _ H1 hq kl_up_self (fun j hj => kl_up_ne hj) (by omega) (hP.push hq (by omega) e1 (fun x hx => o1 x (by omega)))
theorem kl_newZ (hexec : p.tables.exec = Jvm.exec) (hb : c.code = cc) (harr : (Cond.arrayClass .boolean).before args s = true) (hK : kl_K G s) (hP : kl_S G B w H0 H locs) {n : Nat} (hn : n < 2 ^ 20) (hcells : cells + 1 ≤ R.cells) (hslots : slots + n ≤ R.slots) (hdg : decode cc pc = .ok (.newarray .boolean, 2))
    (kk : ∀ (q : Nat) (w1 : kl_M) (H1 : Heap), H.size = B + q → w1 q = some (kl_aZ G n (fun _ => 0)) → (∀ j, j ≠ q → w1 j = w j) → H1.size = H.size + 1 → kl_S G B w1 H0 H1 locs →
      W p l e R s m args below meth c H1 locs (cells + 1) (slots + n) Q (F0 m (pc + 2) ls (.ref (B + q) :: rest))) : W p l e R s m args below meth c H locs cells slots Q (F0 m pc ls (.int (nI n) :: rest)) := by
  obtain ⟨q, hq⟩ : ∃ q, H.size = B + q := ⟨H.size - B, by have := hP.1.1; omega⟩
  refine va_newaK (atype := .boolean) hexec hb harr rfl hdg rfl (nI_pos (by omega)) (nI_clamp (by omega)) (by show n * 1 ≤ 536870912; omega) hcells hslots hq fun H1 cA e1 z1 o1 hAr hNm => ?_
  have hcA : cA = G.2 1 := Option.some.inj (hNm.symm.trans (hK.1.2 1 (G.2 1, .boolean) rfl).2)
  subst hcA
  exact kk q _ H1 hq kl_up_self (fun j hj => kl_up_ne hj) (by omega) (hP.push hq (by omega) e1 (fun x hx => o1 x (by omega)))
theorem kl_newL (hexec : p.tables.exec = Jvm.exec) (hb : c.code = cc) (harr : (Cond.arrayClass .long).before args s = true) (hK : kl_K G s) (hP : kl_S G B w H0 H locs) {n : Nat} (hn : n < 2 ^ 20) (hcells : cells + 1 ≤ R.cells) (hslots : slots + n ≤ R.slots) (hdg : decode cc pc = .ok (.newarray .long, 2))
    (kk : ∀ (q : Nat) (w1 : kl_M) (H1 : Heap), H.size = B + q → w1 q = some (kl_aL G n (fun _ => 0)) → (∀ j, j ≠ q → w1 j = w j) → H1.size = H.size + 1 → kl_S G B w1 H0 H1 locs →
      W p l e R s m args below meth c H1 locs (cells + 1) (slots + n) Q (F0 m (pc + 2) ls (.ref (B + q) :: rest))) : W p l e R s m args below meth c H locs cells slots Q (F0 m pc ls (.int (nI n) :: rest)) := by
  obtain ⟨q, hq⟩ : ∃ q, H.size = B + q := ⟨H.size - B, by have := hP.1.1; omega⟩
  refine va_newaK (atype := .long) hexec hb harr rfl hdg rfl (nI_pos (by omega)) (nI_clamp (by omega)) (by show n * 8 ≤ 536870912; omega) hcells hslots hq fun H1 cA e1 z1 o1 hAr hNm => ?_
  have hcA : cA = G.2 2 := Option.some.inj (hNm.symm.trans (hK.1.2 2 (G.2 2, .long) rfl).2)
  subst hcA
  exact kk q _ H1 hq kl_up_self (fun j hj => kl_up_ne hj) (by omega) (hP.push hq (by omega) e1 (fun x hx => o1 x (by omega)))
theorem kl_newq (hexec : p.tables.exec = Jvm.exec) (hb : c.code = cc) {own C : String} {index : Nat} (hown : s.vm.findClass own = some m.cls) (hclink : (Cond.classLink own index C).before args s = true) (hover : (Cond.arrayOver (.object C)).before args s = true) (hK : kl_K G s) (hP : kl_S G B w H0 H locs) (t0 k0 : Nat) (ht : (kl_T G.2)[t0]? = some (G.2 k0, .object C)) {n : Nat} (hn : n < 2 ^ 20) (hcells : cells + 1 ≤ R.cells) (hslots : slots + n ≤ R.slots) (hdg : decode cc pc = .ok (.anewarray index, 3))
    (kk : ∀ (q : Nat) (w1 : kl_M) (H1 : Heap), H.size = B + q → w1 q = some (kl_aR G k0 n (fun _ => none)) → (∀ j, j ≠ q → w1 j = w j) → H1.size = H.size + 1 → kl_S G B w1 H0 H1 locs →
      W p l e R s m args below meth c H1 locs (cells + 1) (slots + n) Q (F0 m (pc + 3) ls (.ref (B + q) :: rest))) : W p l e R s m args below meth c H locs cells slots Q (F0 m pc ls (.int (nI n) :: rest)) := by
  obtain ⟨q, hq⟩ : ∃ q, H.size = B + q := ⟨H.size - B, by have := hP.1.1; omega⟩
  have hcl : (nI n).toNatClampNeg = n := nI_clamp (by omega)
  refine W.anew hexec hb hown hclink hover rfl hdg rfl (nI_pos (by omega)) (by rw [hcl]; omega) hcells (by rw [hcl]; exact hslots) fun cA kA comp f1 f2 f3 f4 => ?_
  obtain ⟨kA', comp', -, -, -, g4⟩ := (hK.1.2 t0 _ ht).2
  have hcA : cA = G.2 k0 := Option.some.inj (f1.symm.trans g4)
  subst hcA
  rw [hcl, hq]
  generalize hH1 : H.push ({ cls := G.2 k0, slots := Array.replicate n .null, vm := .none } : Cell) = H1
  have z1 : H1.size = H.size + 1 := by rw [← hH1, Array.size_push]
  have e1 : H1[B + q]? = some (arrV (G.2 k0) n (fun _ => .null)) := by rw [← hH1, ← hq, Array.getElem?_push_size, ← arrV_new]
  have o1 : ∀ q : Nat, q < H.size → H1[q]? = H[q]? := fun q hq => by rw [← hH1, Array.getElem?_push, if_neg (Nat.ne_of_lt hq)]
  exact kk q _ H1 hq kl_up_self (fun j hj => kl_up_ne hj) z1 (hP.push hq z1 e1 o1)
end KLR
