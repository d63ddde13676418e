def bt_hd (dl dn : Nat → Int32) (p x : Nat) : Prop := ∃ i L, i < L ∧ L ≤ 7 ∧ dl p = nI L ∧ dn (7 * p + i) = nI x
def bt_hs (cc cv mn : Nat → Int32) (a x : Nat) : Prop :=
  ∃ k, k < 6 ∧ ∃ c, 1 ≤ c ∧ c ≤ 5 ∧ cc (6 * a + k) = nI c ∧ (cv (6 * a + k) = nI x ∨ ∃ m, m < c ∧ mn (5 * (6 * a + k) + m) = nI x)
def bt_ht (oc on : Nat → Int32) (a x : Nat) : Prop :=
  ∃ k, k < 4 ∧ ∃ c, c ≤ 5 ∧ oc (4 * a + k) = nI c ∧ ∃ m, m < c ∧ on (5 * (4 * a + k) + m) = nI x
def bt_h1 (dl dn cc cv mn oc on : Nat → Int32) (p a b x : Nat) : Prop := bt_hd dl dn p x ∨ bt_hs cc cv mn a x ∨ bt_ht oc on b x
def bt_H (th dl dn cc cv mn oc on : Nat → Int32) (s t : Nat → Nat) (x : Nat) : Prop :=
  ∃ p, p < 4 ∧ th p ≠ 0 ∧ bt_h1 dl dn cc cv mn oc on p (s p) (t p) x
section
variable {st dr nm pa sz th dl sp tb dn cc cv mn mc oc on om op sY tY dy dm vc ms me cr hd hN ps la : Nat → Int32} {s s' t t' : Nat → Nat}
variable {st2 dr2 nm2 pa2 sz2 th2 dl2 sp2 tb2 dn2 cc2 cv2 mn2 mc2 oc2 on2 om2 op2 sY2 tY2 dy2 dm2 vc2 ms2 me2 cr2 hd2 hN2 ps2 la2 : Nat → Int32}
/-- the nodes change, but for what is held -/
theorem bt_upN (R : bt_R st dr nm pa sz th dl sp tb dn cc cv mn mc oc on om op sY tY dy dm vc ms me cr hd hN ps la s s' t t')
    (hA : bt_A st2 dr2 pa2 sz2)
    (hh : ∀ n, n < 48 → bt_H th dl dn cc cv mn oc on s t n → st n ≠ 0 → st2 n ≠ 0 ∧ nm2 n = nm n ∧ dr2 n = dr n ∧
      (dr n = 0 → ∀ z, z ≤ 6 → sz n = nI z → ∃ z2, z ≤ z2 ∧ z2 ≤ 6 ∧ sz2 n = nI z2)) :
    bt_R st2 dr2 nm2 pa2 sz2 th dl sp tb dn cc cv mn mc oc on om op sY tY dy dm vc ms me cr hd hN ps la s s' t t' := by
  obtain ⟨RA, B1, B2, RS, RT, RP⟩ := R
  refine ⟨hA, B1, B2, RS, RT, fun p hp tp => ⟨?_, fun k hk => ?_, fun k hk => ?_⟩⟩
  · obtain ⟨L, L1, L7, a, b, f⟩ := (RP p hp tp).1
    refine ⟨L, L1, L7, a, b, fun i hi => ⟨(f i hi).1, ?_⟩⟩
    obtain ⟨_, n, hN, e, z, g⟩ := f i hi
    have q := hh n hN ⟨p, hp, tp, Or.inl ⟨i, L, hi, L7, a, e⟩⟩ z
    refine ⟨n, hN, e, q.1, fun h => ?_⟩
    rw [q.2.1]; exact g h
  · rcases (RP p hp tp).2.1 k hk with y | ⟨c, c1, c5, a, b, d, e, f⟩
    · exact Or.inl y
    · refine Or.inr ⟨c, c1, c5, a, b, d, ?_, fun m hm => ⟨(f m hm).1, (f m hm).2.1, ?_⟩⟩
      · exact bt_N_m e (fun n hN e2 z => (hh n hN ⟨p, hp, tp, Or.inr (Or.inl ⟨k, hk, c, c1, c5, a, Or.inl e2⟩)⟩ z).1)
      · exact bt_N_m (f m hm).2.2 (fun n hN e2 z => (hh n hN ⟨p, hp, tp, Or.inr (Or.inl ⟨k, hk, c, c1, c5, a, Or.inr ⟨m, hm, e2⟩⟩)⟩ z).1)
  · obtain ⟨c, c5, a, b, f, g⟩ := (RP p hp tp).2.2 k hk
    refine ⟨c, c5, a, b, fun m hm => ⟨(f m hm).1, ?_⟩, fun h => ?_⟩
    · exact bt_N_m (f m hm).2 (fun n hN e2 z => (hh n hN ⟨p, hp, tp, Or.inr (Or.inr ⟨k, hk, c, c5, a, m, hm, e2⟩)⟩ z).1)
    · obtain ⟨n, hN, e, y⟩ := g h
      have z : st n ≠ 0 := by
        obtain ⟨n2, hN2, e2, z2⟩ := (f 0 (by omega)).2
        have e3 : nI n = nI n2 := e.symm.trans e2
        rw [bt_inj (by omega) (by omega) e3]; exact z2
      have q := hh n hN ⟨p, hp, tp, Or.inr (Or.inr ⟨k, hk, c, c5, a, 0, by omega, e⟩)⟩ z
      refine ⟨n, hN, e, ?_⟩
      rcases y with ⟨y1, y2⟩ | ⟨y1, q', z', y2, y3, y4, y5, y6⟩
      · exact Or.inl ⟨by rw [q.2.2.1]; exact y1, y2⟩
      · obtain ⟨z2, l1, l2, l3⟩ := q.2.2.2 y1 z' y3 y4
        exact Or.inr ⟨by rw [q.2.2.1]; exact y1, q', z2, by omega, l2, l3, y5, y6⟩
theorem bt_H_st (R : bt_R st dr nm pa sz th dl sp tb dn cc cv mn mc oc on om op sY tY dy dm vc ms me cr hd hN ps la s s' t t') {x : Nat} (hx : x < 48)
    (h : bt_H th dl dn cc cv mn oc on s t x) : st x ≠ 0 := by
  obtain ⟨p, hp, tp, h⟩ := h
  have RP := R.2.2.2.2.2 p hp tp
  have fin : ∀ y : Int32, y = nI x → bt_N st y → st x ≠ 0 := by
    intro y e ⟨n, hN, e2, z⟩
    have e3 : nI x = nI n := e.symm.trans e2
    rw [bt_inj (by omega) (by omega) e3]; exact z
  rcases h with ⟨i, L, hi, L7, a, e⟩ | ⟨k, hk, c, c1, c5, a, e⟩ | ⟨k, hk, c, c5, a, m, hm, e⟩
  · obtain ⟨L2, _, L72, a2, _, f⟩ := RP.1
    have e1 : L = L2 := bt_inj (by omega) (by omega) (a.symm.trans a2)
    obtain ⟨_, n, hN, e2, z, _⟩ := f i (by omega)
    exact fin _ e ⟨n, hN, e2, z⟩
  · rcases RP.2.1 k hk with y | ⟨c2, c12, c52, a2, b, d, e2, f⟩
    · have : nI c = nI 0 := a.symm.trans y.1
      have := bt_inj (by omega) (by omega) this
      omega
    · have e3 : c = c2 := bt_inj (by omega) (by omega) (a.symm.trans a2)
      rcases e with e | ⟨m, hm, e⟩
      · exact fin _ e e2
      · exact fin _ e (f m (by omega)).2.2
  · obtain ⟨c2, c52, a2, b, f, g⟩ := RP.2.2 k hk
    have e3 : c = c2 := bt_inj (by omega) (by omega) (a.symm.trans a2)
    exact fin _ e (f m (by omega)).2
/-- what the sweep leaves -/
def bt_sw (st : Nat → Int32) (H : Nat → Prop) (st2 : Nat → Int32) : Prop :=
  ∀ n, (3 ≤ n ∧ n < 48 ∧ st n = 2 ∧ ¬ H n → st2 n = 0) ∧ (¬ (3 ≤ n ∧ n < 48 ∧ st n = 2 ∧ ¬ H n) → st2 n = st n)
theorem bt_upSw (R : bt_R st dr nm pa sz th dl sp tb dn cc cv mn mc oc on om op sY tY dy dm vc ms me cr hd hN ps la s s' t t')
    (h : bt_sw st (bt_H th dl dn cc cv mn oc on s t) st2) :
    bt_R st2 dr nm pa sz th dl sp tb dn cc cv mn mc oc on om op sY tY dy dm vc ms me cr hd hN ps la s s' t t' := by
  refine bt_upN R ⟨R.1.1, fun n hN => ?_, fun n hN => ⟨fun h3 h1 => ?_, (R.1.2.2 n hN).2⟩⟩ (fun n hN hH hz => ⟨?_, rfl, rfl, fun _ z hz6 e => ⟨z, Nat.le_refl _, hz6, e⟩⟩)
  · rw [(h n).2 (by omega)]; exact R.1.2.1 n hN
  · refine (R.1.2.2 n hN).1 h3 ?_
    by_cases e : 3 ≤ n ∧ n < 48 ∧ st n = 2 ∧ ¬ bt_H th dl dn cc cv mn oc on s t n
    · exact absurd ((h n).1 e) h1
    · rw [← (h n).2 e]; exact h1
  · rw [(h n).2 (fun e => e.2.2.2 hH)]; exact hz
/-- covers change where no process has its space -/
theorem bt_frC {a b : Nat} (R : bt_R st dr nm pa sz th dl sp tb dn cc cv mn mc oc on om op sY tY dy dm vc ms me cr hd hN ps la s s' t t')
    (fa : ∀ p, p < 4 → th p ≠ 0 → s p ≠ a) (fb : ∀ p, p < 4 → th p ≠ 0 → s' p ≠ b)
    (h1 : ∀ x, (x < 6 * a ∨ 6 * a + 6 ≤ x) → cc2 x = cc x ∧ cv2 x = cv x)
    (h2 : ∀ x, (x < 30 * a ∨ 30 * a + 30 ≤ x) → mn2 x = mn x ∧ mc2 x = mc x)
    (h3 : ∀ x, (x < 6 * b ∨ 6 * b + 6 ≤ x) → vc2 x = vc x ∧ ms2 x = ms x)
    (h4 : ∀ x, (x < 30 * b ∨ 30 * b + 30 ≤ x) → me2 x = me x ∧ cr2 x = cr x)
    (b1 : ∀ i, bt_B (mc2 i)) (b2 : ∀ i, bt_B (cr2 i)) :
    bt_R st dr nm pa sz th dl sp tb dn cc2 cv2 mn2 mc2 oc on om op sY tY dy dm vc2 ms2 me2 cr2 hd hN ps la s s' t t' := by
  obtain ⟨RA, _, _, RS, RT, RP⟩ := R
  refine ⟨RA, b1, b2, RS, RT, fun q hq tY => ⟨(RP q hq tY).1, fun k hk => ?_, (RP q hq tY).2.2⟩⟩
  have n1 := fa q hq tY
  have n2 := fb q hq tY
  refine bt_C_c ((RP q hq tY).2.1 k hk) (h1 _ ?_) (fun m hm => h2 _ ?_) (h3 _ ?_) (fun m hm => h4 _ ?_)
  · rcases Nat.lt_or_gt_of_ne n1 with z | z <;> omega
  · rcases Nat.lt_or_gt_of_ne n1 with z | z <;> omega
  · rcases Nat.lt_or_gt_of_ne n2 with z | z <;> omega
  · rcases Nat.lt_or_gt_of_ne n2 with z | z <;> omega
theorem bt_frD {a b : Nat} (R : bt_R st dr nm pa sz th dl sp tb dn cc cv mn mc oc on om op sY tY dy dm vc ms me cr hd hN ps la s s' t t')
    (fa : ∀ p, p < 4 → th p ≠ 0 → t p ≠ a) (fb : ∀ p, p < 4 → th p ≠ 0 → t' p ≠ b)
    (h1 : ∀ x, (x < 4 * a ∨ 4 * a + 4 ≤ x) → oc2 x = oc x ∧ om2 x = om x ∧ op2 x = op x)
    (h2 : ∀ x, (x < 20 * a ∨ 20 * a + 20 ≤ x) → on2 x = on x)
    (h3 : ∀ x, (x < 4 * b ∨ 4 * b + 4 ≤ x) → hd2 x = hd x ∧ ps2 x = ps x ∧ la2 x = la x)
    (h4 : ∀ x, (x < 20 * b ∨ 20 * b + 20 ≤ x) → hN2 x = hN x) :
    bt_R st dr nm pa sz th dl sp tb dn cc cv mn mc oc2 on2 om2 op2 sY tY dy dm vc ms me cr hd2 hN2 ps2 la2 s s' t t' := by
  obtain ⟨RA, B1, B2, RS, RT, RP⟩ := R
  refine ⟨RA, B1, B2, RS, RT, fun q hq tY => ⟨(RP q hq tY).1, (RP q hq tY).2.1, fun k hk => ?_⟩⟩
  have n1 := fa q hq tY
  have n2 := fb q hq tY
  refine bt_D_c ((RP q hq tY).2.2 k hk) (h1 _ ?_) (fun m hm => h2 _ ?_) (h3 _ ?_) (fun m hm => h4 _ ?_)
  · rcases Nat.lt_or_gt_of_ne n1 with z | z <;> omega
  · rcases Nat.lt_or_gt_of_ne n1 with z | z <;> omega
  · rcases Nat.lt_or_gt_of_ne n2 with z | z <;> omega
  · rcases Nat.lt_or_gt_of_ne n2 with z | z <;> omega
/-- a process comes -/
theorem bt_S_add {c a b : Nat} (RS : bt_S th sp sY s s') (hc : c < 4) (tc : th c = 0) (ha : a < 4) (hb : b < 4)
    (sh : ∀ q, q < 4 → th q ≠ 0 → (s q = a ↔ s' q = b)) :
    bt_S (upd th c 1) (upd sp c (nI a)) (upd sY c (nI b)) (fun q => if q = c then a else s q) (fun q => if q = c then b else s' q) := by
  refine ⟨fun p hp => ?_, fun p q hp hq tp tY => ?_⟩
  · by_cases e : p = c
    · simp only [e, if_true]; exact ⟨pk_us, ha, pk_us, hb⟩
    · simp only [e, if_false]; rw [pk_un e, pk_un e]; exact RS.1 p hp
  · by_cases e : p = c
    · by_cases e2 : q = c
      · simp only [e, e2, if_true]
      · simp only [e, e2, if_true, if_false]
        rw [pk_un e2] at tY
        have := sh q hq tY
        exact ⟨fun z => (this.mp z.symm).symm, fun z => (this.mpr z.symm).symm⟩
    · rw [pk_un e] at tp
      by_cases e2 : q = c
      · simp only [e, e2, if_true, if_false]
        exact sh p hp tp
      · simp only [e, e2, if_false]
        rw [pk_un e2] at tY
        exact RS.2 p q hp hq tp tY
theorem bt_add {c a b a' b' : Nat} (R : bt_R st dr nm pa sz th dl sp tb dn cc cv mn mc oc on om op sY tY dy dm vc ms me cr hd hN ps la s s' t t')
    (hc : c < 4) (tc : th c = 0) (ha : a < 4) (hb : b < 4) (ha' : a' < 4) (hb' : b' < 4)
    (sh : ∀ q, q < 4 → th q ≠ 0 → (s q = a ↔ s' q = b)) (sh' : ∀ q, q < 4 → th q ≠ 0 → (t q = a' ↔ t' q = b'))
    (hT : bt_T st nm dl dn dy dm c)
    (hC : ∀ k, k < 6 → bt_C st cc cv mn mc vc ms me cr (6 * a + k) (6 * b + k))
    (hD : ∀ k, k < 4 → bt_D st dr sz oc on om op hd hN ps la (4 * a' + k) (4 * b' + k)) :
    bt_R st dr nm pa sz (upd th c 1) dl (upd sp c (nI a)) (upd tb c (nI a')) dn cc cv mn mc oc on om op (upd sY c (nI b)) (upd tY c (nI b')) dy dm vc ms me cr hd hN ps la
      (fun q => if q = c then a else s q) (fun q => if q = c then b else s' q) (fun q => if q = c then a' else t q) (fun q => if q = c then b' else t' q) := by
  obtain ⟨RA, B1, B2, RS, RT, RP⟩ := R
  refine ⟨RA, B1, B2, bt_S_add RS hc tc ha hb sh, bt_S_add RT hc tc ha' hb' sh', fun p hp tp => ?_⟩
  by_cases e : p = c
  · simp only [e, if_true]; exact ⟨hT, hC, hD⟩
  · simp only [e, if_false]
    rw [pk_un e] at tp
    exact RP p hp tp
/-- a process goes -/
theorem bt_del {c : Nat} (R : bt_R st dr nm pa sz th dl sp tb dn cc cv mn mc oc on om op sY tY dy dm vc ms me cr hd hN ps la s s' t t') :
    bt_R st dr nm pa sz (upd th c 0) dl sp tb dn cc cv mn mc oc on om op sY tY dy dm vc ms me cr hd hN ps la s s' t t' := by
  obtain ⟨RA, B1, B2, RS, RT, RP⟩ := R
  have k : ∀ p, upd th c 0 p ≠ 0 → th p ≠ 0 := by
    intro p h
    by_cases e : p = c
    · rw [e, pk_us] at h; exact absurd rfl h
    · rw [pk_un e] at h; exact h
  exact ⟨RA, B1, B2, ⟨RS.1, fun p q hp hq tp tY => RS.2 p q hp hq (k p tp) (k q tY)⟩, ⟨RT.1, fun p q hp hq tp tY => RT.2 p q hp hq (k p tp) (k q tY)⟩, fun p hp tp => RP p hp (k p tp)⟩
end
