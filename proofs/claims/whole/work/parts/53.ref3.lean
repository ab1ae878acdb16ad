/-! Keys that are passed on, rows that go. -/
section MRX
variable {nT n nL : Nat} {cn : Nat → Nat} {T C O D sO sD : Nat → Int32} {f : Nat → Nat} {lch : Nat → Int32} {lco : Nat → Nat} {lpa lwy : Nat → Int32}
theorem mr_R.up (hf : mr_R nT cn T C (md_T n O) D f) (hn4 : nT ≤ 4) (hc4 : ∀ t, t < nT → 2 ≤ cn t ∧ cn t ≤ 4) {t p0 p2 q : Nat} {x : Int32} (ht : t < nT) (hp0 : p0 < 24) (h1 : T p0 = nI t) (hpl : f p0 = p2) (hq : q < 4) : mr_R nT cn T (upd C (4 * p0 + q) x) (md_T n O) (upd D (4 * p2 + q) x) f := by
  refine ⟨fun p hp hT => ?_, hf.2.1, hf.2.2⟩
  obtain ⟨a1, a2, a3⟩ := hf.1 p hp hT
  refine ⟨a1, a2, fun t2 c ht2 e2 hc => ?_⟩
  have := (hc4 t2 ht2).2
  have e3 := a3 t2 c ht2 e2 hc
  by_cases e : p = p0 ∧ c = q
  · obtain ⟨rfl, rfl⟩ := e
    rw [hpl, pk_us, pk_us]
  · have hne : 4 * f p + c ≠ 4 * p2 + q := fun z => by
      have z1 : f p = p2 ∧ c = q := by omega
      refine e ⟨hf.2.1 p p0 hp hp0 hT (by rw [h1]; exact mr_nt hn4 ht) (by rw [z1.1, hpl]), z1.2⟩
    rw [pk_un hne, pk_un (by omega)]
    exact e3
theorem mr_refi (hf : mr_R nT cn T C (md_T n sO) sD f) (hn4 : nT ≤ 4) (h0 : ∀ t, t < nT → 0 < cn t) (hl : ∀ j, j < nL → ∃ a b, a < nT ∧ b < nT ∧ lch j = nI a ∧ lpa j = nI b ∧ lco j < cn a) {l p q : Nat} (hj : l < nL) (hp : p < 24) (hq : q < 24) (hTp : T p ≠ -1) (hTq : T q ≠ -1) : mt_ref T C (lch l) (lco l) (lpa l) p q ↔ mt_ref (md_T n sO) sD (lch l) (lco l) (lpa l) (f p) (f q) := by
  obtain ⟨a, b, h1, h2, h3, h4, h5⟩ := hl l hj
  rw [h3, h4]
  exact ⟨mr_ref1 hf hn4 h0 h1 h2 h5 hp hq, mr_ref2 hf hn4 h0 h1 h2 h5 hp hq hTp hTq⟩
theorem mr_refo (hn4 : nT ≤ 4) (hl : ∀ j, j < nL → ∃ a b, a < nT ∧ b < nT ∧ lch j = nI a ∧ lpa j = nI b ∧ lco j < cn a) {l p q : Nat} {A E : Nat → Int32} (hj : l < nL) (z : mt_ref A E (lch l) (lco l) (lpa l) p q) : A p ≠ -1 ∧ A q ≠ -1 := by
  obtain ⟨a, b, h1, h2, h3, h4, h5⟩ := hl l hj
  rw [h3, h4] at z
  exact ⟨by rw [z.1]; exact mr_nt hn4 h1, by rw [z.2.2.1]; exact mr_nt hn4 h2⟩
theorem mr_RW.rnm (h : mr_RW nT cn T C n O D) (hn4 : nT ≤ 4) (hc4 : ∀ t, t < nT → 2 ≤ cn t ∧ cn t ≤ 4) (hu : mt_uniq T C) (hl : ∀ j, j < nL → ∃ a b, a < nT ∧ b < nT ∧ lch j = nI a ∧ lpa j = nI b ∧ lco j < cn a) (hlo : ∀ j, j < nL → 0 < lco j)
    (hsO : ∀ q, q < n → sO q = O q) (hsD : ∀ k, k < 4 * n → sD k = D k) {t p0 p2 : Nat} {k x kp kp2 : Int32} {V : Nat → Int32} {d2 e2 : Nat → Int32} (ht : t < nT) (hp0 : p0 < 24) (h1 : T p0 = nI t) (h2 : C (4 * p0) = k) (hp2 : p2 < n) (h3 : O p2 = nI t) (h4 : D (4 * p2) = k) (hx : x ≠ 0)
    (hw1 : mt_wr 24 (fun l _ => l < nL) (fun l p => lwy l ≠ 0 ∧ mt_ref T C (lch l) (lco l) (lpa l) p p0) lco V (upd C (4 * p0) x) d2) (hw2 : mt_wr n (fun l _ => l < nL) (fun l p => lwy l ≠ 0 ∧ mt_ref (md_T n sO) sD (lch l) (lco l) (lpa l) p p2) lco V (upd D (4 * p2) x) e2)
    (hk1 : mt_kp 24 (fun l _ => l < nL) (fun l p => lwy l = 0 ∧ mt_ref T C (lch l) (lco l) (lpa l) p p0) kp) (hk2 : mt_kp n (fun l _ => l < nL) (fun l p => lwy l = 0 ∧ mt_ref (md_T n sO) sD (lch l) (lco l) (lpa l) p p2) kp2) :
    mr_RW nT cn T d2 n O e2 ∧ kp = kp2 := by
  obtain ⟨⟨f, hf⟩, htb, hk, hO, hn24⟩ := h
  have h0 : ∀ t, t < nT → 0 < cn t := fun t ht => by have := hc4 t ht; omega
  have hpl := mr_place hf hn4 h0 hu hn24 ht hp0 h1 h2 hp2 h3 h4
  have hfs := hf.snap (fun t ht => (hc4 t ht).2) hsO hsD
  have hfb := hf.up (q := 0) (x := x) hn4 hc4 ht hp0 h1 hpl (by omega)
  rw [Nat.add_zero, Nat.add_zero] at hfb
  have hT0 : T p0 ≠ -1 := by rw [h1]; exact mr_nt hn4 ht
  have hfl : ∀ p, p < 24 → T p ≠ -1 → f p < n := fun p hp hT => (md_ne hT (hf.1 p hp hT).2.1).1
  have hci : ∀ l p, l < nL → p < 24 → T p ≠ -1 → (mt_ref T C (lch l) (lco l) (lpa l) p p0 ↔ mt_ref (md_T n sO) sD (lch l) (lco l) (lpa l) (f p) p2) := fun l p hj hp hT => by
    have := mr_refi hfs hn4 h0 hl hj hp hp0 hT hT0
    rw [hpl] at this
    exact this
  refine ⟨⟨⟨f, fun p hp hT => ?_, hf.2.1, hf.2.2⟩, htb, fun p hp hT => ?_, hO, hn24⟩, mr_kp_det hk1 hk2 fun l hj => ⟨?_, ?_⟩⟩
  · obtain ⟨a1, a2, a3⟩ := hfb.1 p hp hT
    refine ⟨a1, a2, fun t2 c ht2 e3 hc => ?_⟩
    have := (hc4 t2 ht2).2
    exact (mr_wr_det hw1 hw2 hp (hfl p hp hT) (by omega) (fun l hj => by rw [hci l p hj hp hT]) (a3 t2 c ht2 e3 hc).symm).symm
  · have := mr_wr_no hw1 hp (c := 0) (by omega) (fun l hj e => by have := hlo l hj; omega)
    rw [Nat.add_zero] at this
    rw [this]
    by_cases e : p = p0
    · rw [e, pk_us]; exact hx
    · rw [pk_un (by omega)]; exact hk p hp hT
  · rintro ⟨p, b1, b2, b3⟩
    have hT := (mr_refo hn4 hl hj b3).1
    exact ⟨f p, hfl p b1 hT, b2, (hci l p hj b1 hT).mp b3⟩
  · rintro ⟨q, b1, b2, b3⟩
    have hT := (mr_refo hn4 hl hj b3).1
    obtain ⟨p, c1, c2, c3⟩ := hfs.2.2 q (by omega) hT
    exact ⟨p, c1, b2, (hci l p hj c1 c2).mpr (by rw [c3]; exact b3)⟩
theorem mr_go1 {T2 C2 g1 g2 h2 : Nat → Int32} (hf : mr_R nT cn T C T2 C2 f) (hn4 : nT ≤ 4) (h0 : ∀ t, t < nT → 0 < cn t) (hl : ∀ j, j < nL → ∃ a b, a < nT ∧ b < nT ∧ lch j = nI a ∧ lpa j = nI b ∧ lco j < cn a)
    (hg : mt_from T C nL lch lco lpa lwy g1 g2) (hc : ∀ l p, p < 24 → l < nL → mt_chk T2 C2 h2 lch lco lpa lwy l p) (hh : ∀ q, q < 24 → T q ≠ -1 → g1 q ≠ 0 → h2 (f q) ≠ 0) {p : Nat} (hp : p < 24) (hT : T p ≠ -1) (hz : g2 p ≠ 0) : h2 (f p) ≠ 0 := by
  have key := hg.2 (fun p => T p = -1 ∨ h2 (f p) ≠ 0) (fun l p q hj hw hp hq hr hS => by
    obtain ⟨a, b, e1, e2, e3, e4, e5⟩ := hl l hj
    rw [e3, e4] at hr
    refine Or.inr (fun z => ?_)
    rcases hS with y | y
    · exact absurd y (by rw [hr.2.2.1]; exact mr_nt hn4 e2)
    · refine hc l (f p) (hf.at hn4 hp e1 hr.1).1 hj hw z ⟨f q, (hf.at hn4 hq e2 hr.2.2.1).1, ?_, y⟩
      rw [e3, e4]
      exact mr_ref1 hf hn4 h0 e1 e2 e5 hp hq hr) (fun q hq z => by
    by_cases y : T q = -1
    · exact Or.inl y
    · exact Or.inr (hh q hq y z)) p hp hz
  rcases key with y | y
  · exact absurd y hT
  · exact y
theorem mr_go {T2 C2 g1 g2 h1 h2 : Nat → Int32} (hf : mr_R nT cn T C T2 C2 f) (hn4 : nT ≤ 4) (h0 : ∀ t, t < nT → 0 < cn t) (hl : ∀ j, j < nL → ∃ a b, a < nT ∧ b < nT ∧ lch j = nI a ∧ lpa j = nI b ∧ lco j < cn a)
    (hg : mt_from T C nL lch lco lpa lwy g1 g2) (hgc : ∀ l p, p < 24 → l < nL → mt_chk T C g2 lch lco lpa lwy l p) (hh : mt_from T2 C2 nL lch lco lpa lwy h1 h2) (hhc : ∀ l p, p < 24 → l < nL → mt_chk T2 C2 h2 lch lco lpa lwy l p)
    (hm : ∀ q, q < 24 → T q ≠ -1 → (g1 q ≠ 0 ↔ h1 (f q) ≠ 0)) {p : Nat} (hp : p < 24) (hT : T p ≠ -1) : g2 p ≠ 0 ↔ h2 (f p) ≠ 0 := by
  obtain ⟨g, hgR, inv, inv2⟩ := hf.symm
  constructor
  · exact mr_go1 hf hn4 h0 hl hg hhc (fun q hq hTq z => hh.1 _ (hf.1 q hq hTq).1 ((hm q hq hTq).mp z)) hp hT
  · intro z
    obtain ⟨a1, a2, -⟩ := hf.1 p hp hT
    have := mr_go1 hgR hn4 h0 hl hh hgc (fun q hq hTq y => by
      obtain ⟨b1, b2, -⟩ := hgR.1 q hq hTq
      have hTg : T (g q) ≠ -1 := by rw [b2]; exact hTq
      refine hg.1 _ b1 ((hm _ b1 hTg).mpr ?_)
      rw [inv2 q hq hTq]; exact y) a1 (by rw [a2]; exact hT) z
    rw [inv p hp hT] at this
    exact this
theorem mr_go0 {g1 g2 : Nat → Int32} (hn4 : nT ≤ 4) (hl : ∀ j, j < nL → ∃ a b, a < nT ∧ b < nT ∧ lch j = nI a ∧ lpa j = nI b ∧ lco j < cn a) (hg : mt_from T C nL lch lco lpa lwy g1 g2) (h1 : ∀ q, q < 24 → g1 q ≠ 0 → T q ≠ -1) {p : Nat} (hp : p < 24) (hz : g2 p ≠ 0) : T p ≠ -1 :=
  hg.2 (fun p => T p ≠ -1) (fun l p q hj _ _ _ hr _ => (mr_refo hn4 hl hj hr).1) h1 p hp hz
theorem mr_stay {h : Nat → Int32} : ∀ {n : Nat}, mt_ct (fun q => h q ≠ 0) n + md_st h n = n
  | 0 => rfl
  | n + 1 => by
    have ih := mr_stay (h := h) (n := n)
    by_cases z : h n = 0
    · rw [mt_ct_n (P := fun q => h q ≠ 0) (fun y => y z), md_st_y z]; omega
    · rw [mt_ct_y (P := fun q => h q ≠ 0) z, md_st_n z]; omega
theorem mr_st_sur {h : Nat → Int32} {k : Nat} : ∀ {n : Nat}, k < md_st h n → ∃ q, q < n ∧ h q = 0 ∧ md_st h q = k
  | 0, hk => absurd hk (Nat.not_lt_zero _)
  | n + 1, hk => by
    by_cases z : h n = 0
    · rw [md_st_y z] at hk
      by_cases e : k = md_st h n
      · exact ⟨n, by omega, z, e.symm⟩
      · obtain ⟨q, a, b⟩ := mr_st_sur (h := h) (n := n) (k := k) (by omega)
        exact ⟨q, by omega, b⟩
    · rw [md_st_n z] at hk
      obtain ⟨q, a, b⟩ := mr_st_sur hk
      exact ⟨q, by omega, b⟩
theorem mr_mark1 {t : Int32} {q : Nat} {x v : Int32} {p : Nat} (h : mt_mark T C t q x p v) : v ≠ 0 ↔ T p = t ∧ C (4 * p + q) = x := by
  constructor
  · intro z
    by_cases e : T p = t ∧ C (4 * p + q) = x
    · exact e
    · exact absurd (h.2 e) (by rw [nI_0]; exact z)
  · intro z
    rw [h.1 z]
    decide
theorem mr_RW.del (h : mr_RW nT cn T C n O D) (hn4 : nT ≤ 4) (hc4 : ∀ t, t < nT → 2 ≤ cn t ∧ cn t ≤ 4) (hl : ∀ j, j < nL → ∃ a b, a < nT ∧ b < nT ∧ lch j = nI a ∧ lpa j = nI b ∧ lco j < cn a) (hlo : ∀ j, j < nL → 0 < lco j)
    (hsO : ∀ q, q < n → sO q = O q) (hsD : ∀ k, k < 4 * n → sD k = D k) {t q : Nat} {x kp kp2 : Int32} {g1 g2 h1 h2 d2 D1 O3 D3 : Nat → Int32} (ht : t < nT) (hq : q < cn t)
    (hm1 : ∀ p, p < 24 → mt_mark T C (nI t) q x p (g1 p)) (hg : mt_from T C nL lch lco lpa lwy g1 g2) (hgc : ∀ l p, p < 24 → l < nL → mt_chk T C g2 lch lco lpa lwy l p)
    (hm2 : ∀ p, p < n → mt_mark O D (nI t) q x p (h1 p)) (hh : mt_from (md_T n sO) sD nL lch lco lpa lwy h1 h2) (hhc : ∀ l p, p < 24 → l < nL → mt_chk (md_T n sO) sD h2 lch lco lpa lwy l p)
    (hw1 : mt_wr 24 (fun l _ => l < nL) (fun l p => lwy l = nI 2 ∧ g2 p = 0 ∧ mt_lost T C g2 (lch l) (lco l) (lpa l) p) lco (fun _ => nI 0) C d2) (hk1 : mt_kp 24 (fun l _ => l < nL) (fun l p => lwy l = 0 ∧ g2 p = 0 ∧ mt_lost T C g2 (lch l) (lco l) (lpa l) p) kp)
    (hw2 : mt_wr n (fun l _ => l < nL) (fun l p => lwy l = nI 2 ∧ h2 p = 0 ∧ mt_lost (md_T n sO) sD h2 (lch l) (lco l) (lpa l) p) lco (fun _ => nI 0) D D1) (hk2 : mt_kp n (fun l _ => l < nL) (fun l p => lwy l = 0 ∧ h2 p = 0 ∧ mt_lost (md_T n sO) sD h2 (lch l) (lco l) (lpa l) p) kp2)
    (hcp : md_cp h2 O D1 n O3 D3) : mr_RW nT cn (mt_rm g2 T) d2 (md_st h2 n) O3 D3 ∧ kp = kp2 ∧ mt_gc 24 g2 = n - md_st h2 n := by
  obtain ⟨⟨f, hf⟩, htb, hk, hO, hn24⟩ := h
  have h0 : ∀ t, t < nT → 0 < cn t := fun t ht => by have := hc4 t ht; omega
  have hfs := hf.snap (fun t ht => (hc4 t ht).2) hsO hsD
  have hfl : ∀ p, p < 24 → T p ≠ -1 → f p < n := fun p hp hT => (md_ne hT (hf.1 p hp hT).2.1).1
  have hmk : ∀ p, p < 24 → T p ≠ -1 → (g1 p ≠ 0 ↔ h1 (f p) ≠ 0) := fun p hp hT => by
    obtain ⟨a1, a2, a3⟩ := hf.1 p hp hT
    have hl := hfl p hp hT
    rw [md_lt hl] at a2
    rw [mr_mark1 (hm1 p hp), mr_mark1 (hm2 _ hl), a2]
    constructor
    · rintro ⟨b1, b2⟩
      exact ⟨b1, by rw [a3 t q ht b1 hq]; exact b2⟩
    · rintro ⟨b1, b2⟩
      rw [a3 t q ht b1 hq] at b2
      exact ⟨b1, b2⟩
  have hgi : ∀ p, p < 24 → T p ≠ -1 → (g2 p ≠ 0 ↔ h2 (f p) ≠ 0) := fun p hp hT => mr_go hfs hn4 h0 hl hg hgc hh hhc hmk hp hT
  have hgz : ∀ p, p < 24 → T p ≠ -1 → (g2 p = 0 ↔ h2 (f p) = 0) := fun p hp hT => by
    have := hgi p hp hT
    constructor
    · intro z; exact Classical.byContradiction fun y => this.mpr y z
    · intro z; exact Classical.byContradiction fun y => this.mp y z
  have hlost : ∀ l p, l < nL → p < 24 → T p ≠ -1 → (mt_lost T C g2 (lch l) (lco l) (lpa l) p ↔ mt_lost (md_T n sO) sD h2 (lch l) (lco l) (lpa l) (f p)) := fun l p hj hp hT => by
    constructor
    · rintro ⟨q, a, b, c⟩
      have hTq := (mr_refo hn4 hl hj b).2
      exact ⟨f q, (hf.1 q a hTq).1, (mr_refi hfs hn4 h0 hl hj hp a hT hTq).mp b, (hgi q a hTq).mp c⟩
    · rintro ⟨q2, a, b, c⟩
      obtain ⟨q, d1, d2, d3⟩ := hfs.2.2 q2 a (mr_refo hn4 hl hj b).2
      rw [← d3] at b c
      exact ⟨q, d1, (mr_refi hfs hn4 h0 hl hj hp d1 hT d2).mpr b, (hgi q d1 d2).mpr c⟩
  have hlT : ∀ l p, l < nL → mt_lost T C g2 (lch l) (lco l) (lpa l) p → T p ≠ -1 := fun l p hj ⟨q, _, b, _⟩ => (mr_refo hn4 hl hj b).1
  have hrm : ∀ p, mt_rm g2 T p ≠ -1 → g2 p = 0 ∧ T p ≠ -1 ∧ mt_rm g2 T p = T p := fun p z => by
    unfold mt_rm at z ⊢
    by_cases y : g2 p = 0
    · rw [if_pos y] at z ⊢
      exact ⟨y, z, rfl⟩
    · rw [if_neg y] at z
      exact absurd rfl z
  have hrm0 : ∀ p, g2 p = 0 → mt_rm g2 T p = T p := fun p z => if_pos z
  have hst : md_st h2 n ≤ n := md_st_le
  refine ⟨⟨⟨fun p => md_st h2 (f p), fun p hp hT => ?_, fun p q hp hq hT hT2 e => ?_, fun q hq hT => ?_⟩, fun p hp hT => ?_, fun p hp hT => ?_, fun q hq => ?_, by omega⟩, mr_kp_det hk1 hk2 fun l hj => ⟨?_, ?_⟩, ?_⟩
  · obtain ⟨e1, e2, e3⟩ := hrm p hT
    obtain ⟨a1, a2, a3⟩ := hf.1 p hp e2
    have hl := hfl p hp e2
    have hz := (hgz p hp e2).mp e1
    have hlt := md_st_lt hl hz
    obtain ⟨c1, c2⟩ := hcp.1 _ hl hz
    refine ⟨(show md_st h2 (f p) < 24 by omega), (show md_T (md_st h2 n) O3 (md_st h2 (f p)) = mt_rm g2 T p by rw [md_lt hlt, c1, e3]; rw [md_lt hl] at a2; exact a2), fun t2 c ht2 h3 hc => (show D3 (4 * md_st h2 (f p) + c) = d2 (4 * p + c) from ?_)⟩
    have := (hc4 t2 ht2).2
    rw [e3] at h3
    rw [c2 c (by omega)]
    exact (mr_wr_det hw1 hw2 hp hl (by omega) (fun l hj => by rw [hgz p hp e2, hlost l p hj hp e2]) (a3 t2 c ht2 h3 hc).symm).symm
  · obtain ⟨e1, e2, -⟩ := hrm p hT
    obtain ⟨d1, d2, -⟩ := hrm q hT2
    have z1 := (hgz p hp e2).mp e1
    have z2 := (hgz q hq d2).mp d1
    refine hf.2.1 p q hp hq e2 d2 ?_
    have e : md_st h2 (f p) = md_st h2 (f q) := e
    rcases Nat.lt_trichotomy (f p) (f q) with y | y | y
    · have := md_st_lt y z1; omega
    · exact y
    · have := md_st_lt y z2; omega
  · have hqn : q < md_st h2 n := by
      rcases Nat.lt_or_ge q (md_st h2 n) with z | z
      · exact z
      · exact absurd (md_ge z) hT
    obtain ⟨q2, a1, a2, a3⟩ := mr_st_sur hqn
    obtain ⟨p, b1, b2, b3⟩ := hf.2.2 q2 (by omega) (by rw [md_lt a1]; exact hO q2 a1)
    have hz := (hgz p b1 b2).mpr (by rw [b3]; exact a2)
    exact ⟨p, b1, by rw [hrm0 p hz]; exact b2, (show md_st h2 (f p) = q by rw [b3]; exact a3)⟩
  · obtain ⟨e1, e2, e3⟩ := hrm p hT
    rw [e3]
    exact htb p hp e2
  · obtain ⟨e1, e2, e3⟩ := hrm p hT
    have := mr_wr_no hw1 hp (c := 0) (by omega) (fun l hj e => by have := hlo l hj; omega)
    rw [Nat.add_zero] at this
    rw [this]
    exact hk p hp e2
  · obtain ⟨q2, a1, a2, a3⟩ := mr_st_sur hq
    rw [← a3, (hcp.1 q2 a1 a2).1]
    exact hO q2 a1
  · rintro ⟨p, b1, b2, b3, b4⟩
    have hT := hlT l p hj b4
    exact ⟨f p, hfl p b1 hT, b2, (hgz p b1 hT).mp b3, (hlost l p hj b1 hT).mp b4⟩
  · rintro ⟨q, b1, b2, b3, q3, b4, b5, b6⟩
    obtain ⟨p, c1, c2, c3⟩ := hfs.2.2 q (by omega) (mr_refo hn4 hl hj b5).1
    subst c3
    exact ⟨p, c1, b2, (hgz p c1 c2).mpr b3, (hlost l p hj c1 c2).mpr ⟨q3, b4, b5, b6⟩⟩
  · have e1 : mt_gc 24 g2 = mt_ct (fun q => md_T n O q ≠ -1 ∧ h2 q ≠ 0) 24 := by
      have hz0 : ∀ p, p < 24 → g2 p ≠ 0 → T p ≠ -1 := fun p hp z => mr_go0 hn4 hl hg (fun q hq y => by rw [((mr_mark1 (hm1 q hq)).mp y).1]; exact mr_nt hn4 ht) hp z
      exact mr_ct hf hz0 (fun q hq z => z.1) (fun p hp hT => ⟨fun z => ⟨by rw [(hf.1 p hp hT).2.1]; exact hT, (hgi p hp hT).mp z⟩, fun z => (hgi p hp hT).mpr z.2⟩)
    have e2 : mt_ct (fun q => md_T n O q ≠ -1 ∧ h2 q ≠ 0) 24 = mt_ct (fun q => h2 q ≠ 0) n := by
      rw [md_ct_ext hn24 (fun p hp z => z.1 (md_ge hp))]
      exact mt_ct_cong (fun k hk => ⟨fun z => z.2, fun z => ⟨by rw [md_lt hk]; exact hO k hk, z⟩⟩)
    have e3 := mr_stay (h := h2) (n := n)
    rw [e1, e2]
    omega
end MRX
