/-! Words of the public methods' contracts. -/
def mt_lkok (ch cc pa wy : Int32) (nT : Nat) (cn : Nat → Nat) : Prop := (mt_col ch cc nT cn ∧ cc ≠ 0) ∧ mt_tab pa nT ∧ (wy = 0 ∨ wy = nI 1 ∨ wy = nI 2)
/-- the draft holds something -/
def kl_dr (G : kl_G) (w : kl_M) : Prop := ∃ dT dC : Nat → Int32, w 10 = some (kl_aI G 24 dT) ∧ w 11 = some (kl_aI G 96 dC)
/-- what an update makes of the cells: the cell itself, or a key that is passed on -/
def mt_up (T C : Nat → Int32) (nL : Nat) (lch : Nat → Int32) (lco : Nat → Nat) (lpa lwy : Nat → Int32) (p q : Nat) (x kp : Int32) (d2 : Nat → Int32) : Prop :=
  ((q ≠ 0 ∨ x = C (4 * p)) ∧ kp = -1 ∧ d2 = upd C (4 * p + q) x) ∨ (q = 0 ∧ x ≠ C (4 * p) ∧ mt_wr 24 (fun l _ => l < nL) (fun l p2 => lwy l ≠ 0 ∧ mt_ref T C (lch l) (lco l) (lpa l) p2 p) lco (fun l => if lwy l = nI 1 then x else nI 0) (upd C (4 * p) x) d2 ∧ mt_kp 24 (fun l _ => l < nL) (fun l p2 => lwy l = 0 ∧ mt_ref T C (lch l) (lco l) (lpa l) p2 p) kp)
