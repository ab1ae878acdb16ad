/-! More words of the model: passes over links and rows, what is left as it was. -/
section MDM
variable {n k nL x : Nat} {P P2 : Prop} {cnd : Nat → Nat → Prop} {lco : Nat → Nat} {V : Nat → Int32} {d g : Nat → Int32} {r : Int32}
theorem md_wr_row (h : mt_wr n (md_D k nL x P) cnd lco V d g) (hx : x < n) (hk : k < nL) (hc : cnd k x → P) : mt_wr n (fun l p => (k < l ∧ l < nL) ∨ (l = k ∧ p < x + 1)) cnd lco V d g := by
  by_cases q : P
  · exact h.same (fun l p hp => (md_D_in hx hk q l p hp).symm)
  · exact (h.same (D2 := fun l p => (k < l ∧ l < nL) ∨ (l = k ∧ p < x)) (fun l p _ => (md_D_no q l p).symm)).no (l0 := k) (x := x) (fun l p hp => by omega) (fun z => q (hc z))
theorem md_kp_row (h : mt_kp n (md_D k nL x P) cnd r) (hx : x < n) (hk : k < nL) (hc : cnd k x → P) : mt_kp n (fun l p => (k < l ∧ l < nL) ∨ (l = k ∧ p < x + 1)) cnd r := by
  by_cases q : P
  · exact h.same (fun l p hp => (md_D_in hx hk q l p hp).symm)
  · exact (h.same (D2 := fun l p => (k < l ∧ l < nL) ∨ (l = k ∧ p < x)) (fun l p _ => (md_D_no q l p).symm)).no (l0 := k) (x := x) (fun l p hp => by omega) (fun z => q (hc z))
theorem md_wr_if (h : mt_wr n (md_D k nL x P) cnd lco V d g) (h1 : P → P2) (h2 : cnd k x → P2 → P) : mt_wr n (md_D k nL x P2) cnd lco V d g := by
  by_cases q : P
  · exact h.same (fun l p _ => md_D_if ⟨fun _ => q, fun _ => h1 q⟩ l p)
  · by_cases q2 : P2
    · exact h.no (l0 := k) (x := x) (fun l p _ => md_D_add q2 l p) (fun z => q (h2 z q2))
    · exact h.same (fun l p _ => md_D_if ⟨fun z => absurd z q2, fun z => absurd z q⟩ l p)
theorem md_kp_if (h : mt_kp n (md_D k nL x P) cnd r) (h1 : P → P2) (h2 : cnd k x → P2 → P) : mt_kp n (md_D k nL x P2) cnd r := by
  by_cases q : P
  · exact h.same (fun l p _ => md_D_if ⟨fun _ => q, fun _ => h1 q⟩ l p)
  · by_cases q2 : P2
    · exact h.no (l0 := k) (x := x) (fun l p _ => md_D_add q2 l p) (fun z => q (h2 z q2))
    · exact h.same (fun l p _ => md_D_if ⟨fun z => absurd z q2, fun z => absurd z q⟩ l p)
theorem md_D_le {l p : Nat} (h : md_D k nL x P l p) : k ≤ l := by
  rcases h with h | h | h <;> omega
end MDM
theorem md_lx_m {T C gg : Nat → Int32} {ch : Int32} {co : Nat} {pa : Int32} {p x : Nat} (h : md_lx T C gg ch co pa p x) : md_lx T C gg ch co pa p (x + 1) := by
  obtain ⟨q, h1, h2⟩ := h
  exact ⟨q, by omega, h2⟩
theorem md_ct_ext {P : Nat → Prop} {n : Nat} : ∀ {m : Nat}, n ≤ m → (∀ p, n ≤ p → ¬ P p) → mt_ct P m = mt_ct P n
  | 0, h, _ => by rw [show n = 0 by omega]
  | m + 1, h, hP => by
    by_cases e : n = m + 1
    · rw [e]
    · rw [mt_ct_n (hP m (by omega))]
      exact md_ct_ext (by omega) hP
theorem md_shd_fin {n : Nat} {O D g : Nat → Int32} {t b : Int32} {k : Nat} (ht : t ≠ -1) (h : mt_shd (md_T n O) D t k b n g) (i : Nat) : g i = mt_shf (md_T n O) D t k b i := by
  rcases Nat.lt_or_ge i (4 * n) with q | q
  · exact h.at i q
  · have h1 := (h (i / 4) (i % 4) (by omega)).2 (by omega)
    have e : 4 * (i / 4) + i % 4 = i := by omega
    have h2 := mt_shf_n (C := D) (by_ := b) (k := k) (show i % 4 < 4 by omega) (fun z : md_T n O (i / 4) = t ∧ i % 4 = k => by
      have z1 := z.1
      rw [md_ge (by omega)] at z1
      exact ht z1.symm)
    rw [e] at h1 h2
    rw [h1, h2]
/-- the rows as they were -/
def md_sm (G : kl_G) (w : kl_M) (n : Nat) (O D : Nat → Int32) : Prop := (∃ O2 D2 : Nat → Int32, w 28 = some (kl_aI G 24 O2) ∧ w 29 = some (kl_aI G 96 D2) ∧ (∀ q, q < n → O2 q = O q) ∧ ∀ q, q < 4 * n → D2 q = D q) ∧ md_jk G w
/-- what an update makes of the model's cells -/
def md_up (n : Nat) (D sO sD : Nat → Int32) (nL : Nat) (lch : Nat → Int32) (lco : Nat → Nat) (lpa lwy : Nat → Int32) (p q : Nat) (x kp : Int32) (d2 : Nat → Int32) : Prop :=
  (q ≠ 0 ∧ kp = -1 ∧ d2 = upd D (4 * p + q) x) ∨ (q = 0 ∧ mt_wr n (fun l _ => l < nL) (fun l p2 => lwy l ≠ 0 ∧ mt_ref (md_T n sO) sD (lch l) (lco l) (lpa l) p2 p) lco (fun l => if lwy l = nI 1 then x else nI 0) (upd D (4 * p) x) d2 ∧ mt_kp n (fun l _ => l < nL) (fun l p2 => lwy l = 0 ∧ mt_ref (md_T n sO) sD (lch l) (lco l) (lpa l) p2 p) kp)
/-- the model's whole state, at its places 26 to 46 -/
def md_KF (G : kl_G) (B : Nat) (w : kl_M) (nT nL nS nC nW nM n on : Nat) (ec rs hi : Int32) (cn wt : Nat → Nat) (O D oO oD gn : Nat → Int32) (lch : Nat → Int32) (lco : Nat → Nat) (lpa lwy stb : Nat → Int32) (sco : Nat → Nat) (ctb : Nat → Int32) (cln cw : Nat → Nat) (pl : Nat → Int32) (kR : Nat → Nat) (kO kD : Nat → Int32) : Prop :=
  w 26 = some (.inr (5, [.int ec, .int rs, .int (nI nT), .ref (B + 27), .int (nI n), .ref (B + 28), .ref (B + 29), .int (nI on), .ref (B + 30), .ref (B + 31), .ref (B + 32), .int (nI nL), .ref (B + 33), .ref (B + 34), .ref (B + 35), .ref (B + 36), .int (nI nS), .ref (B + 37), .ref (B + 38), .int (nI nC), .ref (B + 39), .ref (B + 40), .ref (B + 41), .int (nI nW), .ref (B + 42), .int hi, .ref (B + 43), .int (nI nM), .ref (B + 44), .ref (B + 45), .ref (B + 46)])) ∧
  w 27 = some (kl_aI G 4 (fun t => nI (cn t))) ∧ w 28 = some (kl_aI G 24 O) ∧ w 29 = some (kl_aI G 96 D) ∧ w 30 = some (kl_aI G 24 oO) ∧ w 31 = some (kl_aI G 96 oD) ∧ w 32 = some (kl_aZ G 24 gn) ∧
  w 33 = some (kl_aI G 7 lch) ∧ w 34 = some (kl_aI G 7 (fun t => nI (lco t))) ∧ w 35 = some (kl_aI G 7 lpa) ∧ w 36 = some (kl_aI G 7 lwy) ∧ w 37 = some (kl_aI G 5 stb) ∧ w 38 = some (kl_aI G 5 (fun t => nI (sco t))) ∧
  w 39 = some (kl_aI G 5 ctb) ∧ w 40 = some (kl_aI G 5 (fun t => nI (cln t))) ∧ w 41 = some (kl_aI G 50 (fun t => nI (cw t))) ∧ w 42 = some (kl_aI G 10 (fun t => nI (wt t))) ∧ w 43 = some (kl_aI G 12 pl) ∧
  w 44 = some (kl_aI G 4 (fun t => nI (kR t))) ∧ w 45 = some (kl_aI G 96 kO) ∧ w 46 = some (kl_aI G 384 kD)
/-- a copy of m elements into the b-th place of an array -/
def md_kc (b m : Nat) (src old g : Nat → Int32) : Prop := (∀ i, i < m → g (b + i) = src i) ∧ ∀ j, j < b → g j = old j
theorem md_kc.rf {b : Nat} {src old : Nat → Int32} : md_kc b 0 src old old := ⟨fun i h => absurd h (Nat.not_lt_zero _), fun _ _ => rfl⟩
theorem md_kc.yes {b m : Nat} {src old g : Nat → Int32} (h : md_kc b m src old g) : md_kc b (m + 1) src old (upd g (b + m) (src m)) := by
  refine ⟨fun i hi => ?_, fun j hj => ?_⟩
  · by_cases e : i = m
    · rw [e, pk_us]
    · rw [pk_un (by omega)]; exact h.1 i (by omega)
  · rw [pk_un (by omega)]; exact h.2 j hj
theorem md_RP.hrl {nL : Nat} {lch : Nat → Int32} {lco : Nat → Nat} {lpa lwy : Nat → Int32} {nS : Nat} {stb : Nat → Int32} {sco : Nat → Nat} {nC : Nat} {ctb : Nat → Int32} {cln cw ccol : Nat → Nat} (h : md_RP nL lch lco lpa lwy nS stb sco nC ctb cln cw ccol) : ∀ j, j < nL → lch j ≠ -1 ∧ lpa j ≠ -1 ∧ lco j < 4 ∧ (lwy j = 0 ∨ lwy j = nI 1 ∨ lwy j = nI 2) := fun j hj => by
  obtain ⟨h1, h2, h3, h4⟩ := h.1 j hj
  exact ⟨h1, h2, h3.2, h4⟩
