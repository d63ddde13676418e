def bt_N (st : Nat → Int32) (x : Int32) : Prop := ∃ n, n < 48 ∧ x = nI n ∧ st n ≠ 0
/-- a cover of X's at i and of Y's at j hold the same -/
def bt_C (st cc cv mn mc vc ms me cr : Nat → Int32) (i j : Nat) : Prop :=
  (cc i = 0 ∧ vc j = -1) ∨
  (∃ c, 1 ≤ c ∧ c ≤ 5 ∧ cc i = nI c ∧ ms j = nI c ∧ cv i = vc j ∧ bt_N st (cv i) ∧
    ∀ m, m < c → mn (5 * i + m) = me (5 * j + m) ∧ mc (5 * i + m) = cr (5 * j + m) ∧ bt_N st (mn (5 * i + m)))
/-- a descriptor of X's at i and of Y's at j hold the same -/
def bt_D (st dr sz oc on om op hd hN ps la : Nat → Int32) (i j : Nat) : Prop :=
  ∃ c, c ≤ 5 ∧ oc i = nI c ∧ hd j = nI c ∧
    (∀ m, m < c → on (5 * i + m) = hN (5 * j + m) ∧ bt_N st (on (5 * i + m))) ∧
    (1 ≤ c → ∃ n, n < 48 ∧ on (5 * i) = nI n ∧
      ((dr n ≠ 0 ∧ ∃ q, q < c ∧ om i = nI q ∧ ps j = nI q ∧ op i = la j) ∨
       (dr n = 0 ∧ ∃ q z, q ≤ z ∧ z ≤ 6 ∧ sz n = nI z ∧ op i = nI q ∧ ps j = nI q)))
/-- the DOT of process p -/
def bt_T (st nm dl dn dy dm : Nat → Int32) (p : Nat) : Prop :=
  ∃ L, 1 ≤ L ∧ L ≤ 7 ∧ dl p = nI L ∧ dn (7 * p) = 0 ∧
    ∀ i, i < L → dn (7 * p + i) = dy (7 * p + i) ∧ ∃ n, n < 48 ∧ dn (7 * p + i) = nI n ∧ st n ≠ 0 ∧ (1 ≤ i → dm (7 * p + i) = nm n)
def bt_A (st dr pa sz : Nat → Int32) : Prop :=
  (∀ i, bt_B (dr i)) ∧ (∀ n, n < 3 → st n ≠ 0) ∧
  (∀ n, n < 48 → (3 ≤ n → st n ≠ 0 → ∃ q, q < 48 ∧ pa n = nI q) ∧ (dr n = 0 → ∃ z, z ≤ 6 ∧ sz n = nI z) ∧ (dr n ≠ 0 → sz n = 0))
def bt_S (th sp sY : Nat → Int32) (s s' : Nat → Nat) : Prop :=
  (∀ p, p < 4 → sp p = nI (s p) ∧ s p < 4 ∧ sY p = nI (s' p) ∧ s' p < 4) ∧
  (∀ p q, p < 4 → q < 4 → th p ≠ 0 → th q ≠ 0 → (s p = s q ↔ s' p = s' q))
def bt_R (st dr nm pa sz th dl sp tb dn cc cv mn mc oc on om op sY tY dy dm vc ms me cr hd hN ps la : Nat → Int32) (s s' t t' : Nat → Nat) : Prop :=
  bt_A st dr pa sz ∧ (∀ i, bt_B (mc i)) ∧ (∀ i, bt_B (cr i)) ∧ bt_S th sp sY s s' ∧ bt_S th tb tY t t' ∧
  (∀ p, p < 4 → th p ≠ 0 → bt_T st nm dl dn dy dm p ∧
    (∀ k, k < 6 → bt_C st cc cv mn mc vc ms me cr (6 * s p + k) (6 * s' p + k)) ∧
    (∀ k, k < 4 → bt_D st dr sz oc on om op hd hN ps la (4 * t p + k) (4 * t' p + k)))
section
variable {st dr nm pa sz th dl sp tb dn cc cv mn mc oc on om op sY tY dy dm vc ms me cr hd hN ps la : Nat → Int32} {s s' t t' : Nat → Nat}
variable {st2 dr2 nm2 pa2 sz2 th2 dl2 sp2 tb2 dn2 cc2 cv2 mn2 mc2 oc2 on2 om2 op2 sY2 tY2 dy2 dm2 vc2 ms2 me2 cr2 hd2 hN2 ps2 la2 : Nat → Int32}
theorem bt_C_c {i j : Nat} (h : bt_C st cc cv mn mc vc ms me cr i j)
    (h1 : cc2 i = cc i ∧ cv2 i = cv i) (h2 : ∀ m, m < 5 → mn2 (5 * i + m) = mn (5 * i + m) ∧ mc2 (5 * i + m) = mc (5 * i + m))
    (h3 : vc2 j = vc j ∧ ms2 j = ms j) (h4 : ∀ m, m < 5 → me2 (5 * j + m) = me (5 * j + m) ∧ cr2 (5 * j + m) = cr (5 * j + m)) :
    bt_C st cc2 cv2 mn2 mc2 vc2 ms2 me2 cr2 i j := by
  rcases h with ⟨a, b⟩ | ⟨c, c1, c5, a, b, d, e, f⟩
  · exact Or.inl ⟨h1.1.trans a, h3.1.trans b⟩
  · refine Or.inr ⟨c, c1, c5, h1.1.trans a, h3.2.trans b, ?_, ?_, fun m hm => ?_⟩
    · rw [h1.2, h3.1]; exact d
    · rw [h1.2]; exact e
    · have hm5 : m < 5 := by omega
      rw [(h2 m hm5).1, (h2 m hm5).2, (h4 m hm5).1, (h4 m hm5).2]
      exact f m hm
theorem bt_N_m {x : Int32} (h : bt_N st x) (hm : ∀ n, n < 48 → x = nI n → st n ≠ 0 → st2 n ≠ 0) : bt_N st2 x := by
  obtain ⟨n, hN, e, z⟩ := h
  exact ⟨n, hN, e, hm n hN e z⟩
theorem bt_D_c {i j : Nat} (h : bt_D st dr sz oc on om op hd hN ps la i j)
    (h1 : oc2 i = oc i ∧ om2 i = om i ∧ op2 i = op i) (h2 : ∀ m, m < 5 → on2 (5 * i + m) = on (5 * i + m))
    (h3 : hd2 j = hd j ∧ ps2 j = ps j ∧ la2 j = la j) (h4 : ∀ m, m < 5 → hN2 (5 * j + m) = hN (5 * j + m)) :
    bt_D st dr sz oc2 on2 om2 op2 hd2 hN2 ps2 la2 i j := by
  obtain ⟨c, c5, a, b, f, g⟩ := h
  refine ⟨c, c5, h1.1.trans a, h3.1.trans b, fun m hm => ?_, fun h => ?_⟩
  · have hm5 : m < 5 := by omega
    rw [h2 m hm5, h4 m hm5]; exact f m hm
  · obtain ⟨n, hN, e, k⟩ := g h
    refine ⟨n, hN, (h2 0 (by omega)).trans e, ?_⟩
    rw [h1.2.1, h1.2.2, h3.2.1, h3.2.2]; exact k
/-- one cover changes, in the space of process p -/
theorem bt_upC {p k : Nat} (R : bt_R st dr nm pa sz th dl sp tb dn cc cv mn mc oc on om op sY tY dy dm vc ms me cr hd hN ps la s s' t t')
    (hp : p < 4) (hk : k < 6) (ht : th p ≠ 0)
    (h1 : ∀ x, x ≠ 6 * s p + k → cc2 x = cc x ∧ cv2 x = cv x)
    (h2 : ∀ x, (x < 5 * (6 * s p + k) ∨ 5 * (6 * s p + k) + 5 ≤ x) → mn2 x = mn x ∧ mc2 x = mc x)
    (h3 : ∀ x, x ≠ 6 * s' p + k → vc2 x = vc x ∧ ms2 x = ms x)
    (h4 : ∀ x, (x < 5 * (6 * s' p + k) ∨ 5 * (6 * s' p + k) + 5 ≤ x) → me2 x = me x ∧ cr2 x = cr x)
    (b1 : ∀ i, bt_B (mc2 i)) (b2 : ∀ i, bt_B (cr2 i))
    (hC : bt_C st cc2 cv2 mn2 mc2 vc2 ms2 me2 cr2 (6 * s p + k) (6 * s' p + k)) :
    bt_R st dr nm pa sz th dl sp tb dn cc2 cv2 mn2 mc2 oc on om op sY tY dy dm vc2 ms2 me2 cr2 hd hN ps la s s' t t' := by
  obtain ⟨RA, _, _, RS, RT, RP⟩ := R
  refine ⟨RA, b1, b2, RS, RT, fun q hq tY => ⟨(RP q hq tY).1, fun k' hk' => ?_, (RP q hq tY).2.2⟩⟩
  have sh := RS.2 q p hq hp tY ht
  by_cases e : s q = s p ∧ k' = k
  · obtain ⟨e1, e2⟩ := e
    rw [e1, e2, sh.mp e1]; exact hC
  · have n1 : 6 * s q + k' ≠ 6 * s p + k := by
      intro z; exact e ⟨by omega, by omega⟩
    have n2 : 6 * s' q + k' ≠ 6 * s' p + k := by
      intro z
      have e1 : s' q = s' p := by omega
      exact e ⟨sh.mpr e1, by omega⟩
    refine bt_C_c ((RP q hq tY).2.1 k' hk') (h1 _ n1) (fun m hm => h2 _ ?_) (h3 _ n2) (fun m hm => h4 _ ?_)
    · rcases Nat.lt_or_gt_of_ne n1 with z | z <;> omega
    · rcases Nat.lt_or_gt_of_ne n2 with z | z <;> omega
/-- one descriptor changes, in the table of process p -/
theorem bt_upD {p k : Nat} (R : bt_R st dr nm pa sz th dl sp tb dn cc cv mn mc oc on om op sY tY dy dm vc ms me cr hd hN ps la s s' t t')
    (hp : p < 4) (hk : k < 4) (ht : th p ≠ 0)
    (h1 : ∀ x, x ≠ 4 * t p + k → oc2 x = oc x ∧ om2 x = om x ∧ op2 x = op x)
    (h2 : ∀ x, (x < 5 * (4 * t p + k) ∨ 5 * (4 * t p + k) + 5 ≤ x) → on2 x = on x)
    (h3 : ∀ x, x ≠ 4 * t' p + k → hd2 x = hd x ∧ ps2 x = ps x ∧ la2 x = la x)
    (h4 : ∀ x, (x < 5 * (4 * t' p + k) ∨ 5 * (4 * t' p + k) + 5 ≤ x) → hN2 x = hN x)
    (hD : bt_D st dr sz oc2 on2 om2 op2 hd2 hN2 ps2 la2 (4 * t p + k) (4 * t' p + k)) :
    bt_R st dr nm pa sz th dl sp tb dn cc cv mn mc oc2 on2 om2 op2 sY tY dy dm vc ms me cr hd2 hN2 ps2 la2 s s' t t' := by
  obtain ⟨RA, B1, B2, RS, RT, RP⟩ := R
  refine ⟨RA, B1, B2, RS, RT, fun q hq tY => ⟨(RP q hq tY).1, (RP q hq tY).2.1, fun k' hk' => ?_⟩⟩
  have sh := RT.2 q p hq hp tY ht
  by_cases e : t q = t p ∧ k' = k
  · obtain ⟨e1, e2⟩ := e
    rw [e1, e2, sh.mp e1]; exact hD
  · have n1 : 4 * t q + k' ≠ 4 * t p + k := by
      intro z; exact e ⟨by omega, by omega⟩
    have n2 : 4 * t' q + k' ≠ 4 * t' p + k := by
      intro z
      have e1 : t' q = t' p := by omega
      exact e ⟨sh.mpr e1, by omega⟩
    refine bt_D_c ((RP q hq tY).2.2 k' hk') (h1 _ n1) (fun m hm => h2 _ ?_) (h3 _ n2) (fun m hm => h4 _ ?_)
    · rcases Nat.lt_or_gt_of_ne n1 with z | z <;> omega
    · rcases Nat.lt_or_gt_of_ne n2 with z | z <;> omega
/-- the DOT of process p changes -/
theorem bt_upT {p : Nat} (R : bt_R st dr nm pa sz th dl sp tb dn cc cv mn mc oc on om op sY tY dy dm vc ms me cr hd hN ps la s s' t t')
    (h1 : ∀ q, q ≠ p → dl2 q = dl q)
    (h2 : ∀ x, (x < 7 * p ∨ 7 * p + 7 ≤ x) → dn2 x = dn x ∧ dy2 x = dy x ∧ dm2 x = dm x)
    (hT : bt_T st nm dl2 dn2 dy2 dm2 p) :
    bt_R st dr nm pa sz th dl2 sp tb dn2 cc cv mn mc oc on om op sY tY dy2 dm2 vc ms me cr hd hN ps la s s' t t' := by
  obtain ⟨RA, B1, B2, RS, RT, RP⟩ := R
  refine ⟨RA, B1, B2, RS, RT, fun q hq tY => ⟨?_, (RP q hq tY).2.1, (RP q hq tY).2.2⟩⟩
  by_cases e : q = p
  · rw [e]; exact hT
  · obtain ⟨L, L1, L7, a, b, f⟩ := (RP q hq tY).1
    have far : ∀ i, i < 7 → 7 * q + i < 7 * p ∨ 7 * p + 7 ≤ 7 * q + i := by
      intro i hi; rcases Nat.lt_or_gt_of_ne e with z | z <;> omega
    refine ⟨L, L1, L7, (h1 q e).trans a, (h2 (7 * q) (far 0 (by omega))).1.trans b, fun i hi => ?_⟩
    have hh := h2 (7 * q + i) (far i (by omega))
    rw [hh.1, hh.2.1, hh.2.2]; exact f i hi
end
