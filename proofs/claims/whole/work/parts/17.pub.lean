/-! What the public methods leave: the ledger's state, the rules, and the places 26 to 47 untouched. -/
def kl_KE (G : kl_G) (B : Nat) (w : kl_M) (nT nL nS nC nW nM : Nat) (rs : Int32) (cn wt : Nat → Nat) (T C : Nat → Int32) (mT mC : Nat → Nat → Int32) (lf sf cf : Nat → Option Nat) : Prop := ∃ dT dC gg : Nat → Int32, kl_KF G B w nT nL nS nC nW nM rs cn wt T C dT dC mT mC gg lf sf cf
def kl_ST (G : kl_G) (B : Nat) (w0 w : kl_M) (nT nL nS nC nW nM : Nat) (rs : Int32) (cn wt : Nat → Nat) (T C : Nat → Int32) (mT mC : Nat → Nat → Int32) (lf sf cf : Nat → Option Nat) (la : Nat → Nat) (lch : Nat → Int32) (lco : Nat → Nat) (lpa lwy : Nat → Int32) (sa : Nat → Nat) (stb : Nat → Int32) (sco ca cwa cpa : Nat → Nat) (ctb : Nat → Int32) (cln : Nat → Nat) (cwd : Nat → Nat → Nat) (ccol : Nat → Nat) : Prop :=
  kl_KE G B w nT nL nS nC nW nM rs cn wt T C mT mC lf sf cf ∧ kl_RU G B w nL lf la lch lco lpa lwy nS sf sa stb sco nC cf ca cwa cpa ctb cln cwd ccol ∧ ∀ j : Nat, 26 ≤ j → j < 48 → w j = w0 j
def kl_fup (f : Nat → Nat → Int32) (k : Nat) (v : Nat → Int32) : Nat → Nat → Int32 := fun j => if j = k then v else f j
theorem kl_fup_s {f : Nat → Nat → Int32} {k : Nat} {v : Nat → Int32} : kl_fup f k v k = v := by simp [kl_fup]
theorem kl_fup_n {f : Nat → Nat → Int32} {k j : Nat} {v : Nat → Int32} (h : j ≠ k) : kl_fup f k v j = f j := by simp [kl_fup, h]
theorem kl_zf : (fun _ : Nat => (0 : Int32)) = fun t : Nat => nI ((fun _ : Nat => 0) t) := funext fun _ => nI_0.symm
theorem kl_arrR {G : kl_G} {B : Nat} {w : kl_M} {H0 H : Heap} {locs : List Loc} {i k0 n : Nat} {f g : Nat → Option Nat} (hP : kl_S G B w H0 H locs) (he : w i = some (kl_aR G k0 n f)) (h : ∀ j, j < n → f j = g j) : ∃ w1 : kl_M, w1 i = some (kl_aR G k0 n g) ∧ (∀ j, j ≠ i → w1 j = w j) ∧ kl_S G B w1 H0 H locs := by
  refine ⟨kl_up w i (kl_aR G k0 n g), kl_up_self, fun j hj => kl_up_ne hj, ⟨hP.1.1, fun j e hj => ?_⟩, hP.2⟩
  by_cases hji : j = i
  · subst hji
    rw [kl_up_self] at hj
    cases hj
    have h1 := hP.1.2 j _ he
    have h2 : vp_cell (G.2 k0) (n, .inr (.inr (.inr (.inr f)))) = vp_cell (G.2 k0) (n, .inr (.inr (.inr (.inr g)))) := by
      rw [vp_cell_q, vp_cell_q]
      unfold arrV
      congr 2
      funext k
      show va_rf (f k.val) = va_rf (g k.val)
      rw [h k.val k.isLt]
    show H[B + j]? = some (vp_cell _ _)
    rw [← h2]
    exact h1
  · rw [kl_up_ne hji] at hj
    exact hP.1.2 j e hj
theorem mt_wok_lt {n : Nat} (h : mt_wok n) : n < 2 ^ 30 := by unfold mt_wok at h; omega
def mt_has (T C : Nat → Int32) (t k : Int32) : Prop := ∃ p, p < 24 ∧ T p = t ∧ C (4 * p) = k
theorem mt_has_n {T C : Nat → Int32} {t k : Int32} (h : ∀ p, p < 24 → ¬ (T p = t ∧ C (4 * p) = k)) : ¬ mt_has T C t k := fun ⟨p, h1, h2⟩ => h p h1 h2
theorem mt_shf_h {T C : Nat → Int32} {t by_ : Int32} {k p c : Nat} (hc : c < 4) (h : T p = t ∧ c = k) : mt_shf T C t k by_ (4 * p + c) = C (4 * p + c) + by_ := by
  unfold mt_shf
  rw [if_pos ⟨by rw [show (4 * p + c) / 4 = p by omega]; exact h.1, by omega⟩]
theorem mt_shf_n {T C : Nat → Int32} {t by_ : Int32} {k p c : Nat} (hc : c < 4) (h : ¬ (T p = t ∧ c = k)) : mt_shf T C t k by_ (4 * p + c) = C (4 * p + c) := by
  unfold mt_shf
  rw [if_neg (fun z => h ⟨by have := z.1; rw [show (4 * p + c) / 4 = p by omega] at this; exact this, by omega⟩)]
/-- done up to row x -/
def mt_shd (T C : Nat → Int32) (t : Int32) (k : Nat) (by_ : Int32) (x : Nat) (g : Nat → Int32) : Prop := ∀ p c, c < 4 → (p < x → g (4 * p + c) = mt_shf T C t k by_ (4 * p + c)) ∧ (x ≤ p → g (4 * p + c) = C (4 * p + c))
theorem mt_shd.rf {T C : Nat → Int32} {t by_ : Int32} {k : Nat} : mt_shd T C t k by_ 0 C := fun _ _ _ => ⟨fun h => absurd h (Nat.not_lt_zero _), fun _ => rfl⟩
theorem mt_shd.no {T C g : Nat → Int32} {t by_ : Int32} {k x : Nat} (h : mt_shd T C t k by_ x g) (hn : ¬ T x = t) : mt_shd T C t k by_ (x + 1) g := fun p c hc => ⟨fun hp => by
  by_cases e : p = x
  · subst e
    rw [mt_shf_n hc (fun z => hn z.1)]
    exact (h p c hc).2 (Nat.le_refl _)
  · exact (h p c hc).1 (by omega), fun hp => (h p c hc).2 (by omega)⟩
theorem mt_shd.yes {T C g : Nat → Int32} {t by_ : Int32} {k x : Nat} (h : mt_shd T C t k by_ x g) (hk : k < 4) (hn : T x = t) : mt_shd T C t k by_ (x + 1) (upd g (4 * x + k) (g (4 * x + k) + by_)) := fun p c hc => by
  by_cases e : p = x ∧ c = k
  · obtain ⟨rfl, rfl⟩ := e
    rw [pk_us, mt_shf_h hc ⟨hn, rfl⟩, (h p c hc).2 (Nat.le_refl _)]
    exact ⟨fun _ => rfl, fun z => by omega⟩
  · rw [pk_un (by omega)]
    refine ⟨fun hp => ?_, fun hp => (h p c hc).2 (by omega)⟩
    by_cases e2 : p = x
    · subst e2
      rw [mt_shf_n hc (fun z => e ⟨rfl, z.2⟩)]
      exact (h p c hc).2 (Nat.le_refl _)
    · exact (h p c hc).1 (by omega)
theorem mt_shd.at {T C g : Nat → Int32} {t by_ : Int32} {k x : Nat} (h : mt_shd T C t k by_ x g) (q : Nat) (hq : q < 4 * x) : g q = mt_shf T C t k by_ q := by
  have := (h (q / 4) (q % 4) (by omega)).1 (by omega)
  rw [show 4 * (q / 4) + q % 4 = q by omega] at this
  exact this
/-- the rounds of what follows: the last changed nothing, or each marked a row more -/
def mt_rd (T C : Nat → Int32) (nL : Nat) (lch : Nat → Int32) (lco : Nat → Nat) (lpa lwy : Nat → Int32) (rd mm : Nat) (g : Nat → Int32) : Prop := (mm = 0 ∧ ∀ l p, p < 24 → l < nL → mt_chk T C g lch lco lpa lwy l p) ∨ (mm = 1 ∧ rd ≤ mt_gc 24 g)
section MTRD
variable {T C : Nat → Int32} {nL : Nat} {lch : Nat → Int32} {lco : Nat → Nat} {lpa lwy : Nat → Int32} {rd mm m2 : Nat} {g g2 : Nat → Int32}
theorem mt_rd.next (h : mt_rd T C nL lch lco lpa lwy rd mm g) (hm : mm ≠ 0) (h2 : mt_sp T C lch lco lpa lwy (fun l _ => l < nL) g g2 m2) : mt_rd T C nL lch lco lpa lwy (rd + 1) m2 g2 := by
  rcases h with ⟨h1, -⟩ | ⟨-, h1⟩
  · exact absurd h1 hm
  · rcases h2 with ⟨q1, q2, q3⟩ | ⟨q1, q2⟩
    · exact Or.inl ⟨q1, fun l p hp hl => by rw [q2]; exact q3 l p hp hl⟩
    · exact Or.inr ⟨q1, by omega⟩
theorem mt_rd.fin (h : mt_rd T C nL lch lco lpa lwy rd mm g) (he : mm = 0 ∨ 24 ≤ rd) : ∀ l p, p < 24 → l < nL → mt_chk T C g lch lco lpa lwy l p := by
  rcases h with ⟨-, h1⟩ | ⟨h0, h1⟩
  · exact h1
  · intro l p hp hl _ hz
    exact absurd hz (mt_ct_all (P := fun q => g q ≠ 0) (n := 24) (by have : mt_gc 24 g = mt_ct (fun q => g q ≠ 0) 24 := rfl; omega) p hp)
theorem mt_rd.bool (h : mt_rd T C nL lch lco lpa lwy rd mm g) : mm < 2 := by
  rcases h with ⟨h, -⟩ | ⟨h, -⟩ <;> omega
end MTRD
