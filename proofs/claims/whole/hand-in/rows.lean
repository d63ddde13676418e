section
theorem pk_us {f : Nat → Int32} {k : Nat} {x : Int32} : upd f k x k = x := if_pos rfl
theorem pk_un {f : Nat → Int32} {k j : Nat} {x : Int32} (h : j ≠ k) : upd f k x j = f j := if_neg h
theorem pk_uLs {f : Nat → Int64} {k : Nat} {x : Int64} : vp_updL f k x k = x := if_pos rfl
theorem pk_uLn {f : Nat → Int64} {k j : Nat} {x : Int64} (h : j ≠ k) : vp_updL f k x j = f j := if_neg h
theorem pk_sub {a b : Nat} (h : b ≤ a) : nI a - nI b = nI (a - b) := by
  obtain ⟨c, rfl⟩ : ∃ c, a = c + b := ⟨a - b, by omega⟩
  rw [← nI_add, Int32.add_sub_cancel, Nat.add_sub_cancel]
theorem pk_m1 (n : Nat) : nI (n + 1) + (-1) = nI n := by
  rw [← nI_1, Int32.add_assoc, show (1 : Int32) + (-1) = 0 from rfl, Int32.add_zero]
theorem pk_mul (a b : Nat) : nI a * nI b = nI (a * b) := (Int32.ofNat_mul a b).symm
theorem pk_div {a d : Nat} (ha : a < 2 ^ 31) (h0 : 0 < d) (hd : d < 2 ^ 31) : nI a / nI d = nI (a / d) := by
  apply Int32.toInt_inj.mp
  rw [lg_idiv_nonneg (by rw [nI_toInt ha]; omega) (by rw [nI_toInt hd]; omega), nI_toInt ha, nI_toInt hd, nI_toInt (Nat.lt_of_le_of_lt (Nat.div_le_self a d) ha)]
  first | rfl | exact (Int.natCast_ediv _ _).symm
theorem pk_rem {a d : Nat} (ha : a < 2 ^ 31) (h0 : 0 < d) (hd : d < 2 ^ 31) : nI a - nI a / nI d * nI d = nI (a % d) := by
  rw [pk_div ha h0 hd, pk_mul, pk_sub (Nat.div_mul_le_self a d)]
  exact congrArg nI (by have := Nat.div_add_mod' a d; omega)
theorem pk_sub_toInt {a b : Nat} (ha : a < 2 ^ 30) (hb : b < 2 ^ 30) : (nI a - nI b).toInt = (a : Int) - b := by
  rw [Int32.toInt_sub, nI_toInt (by omega), nI_toInt (by omega)]
  exact Int.bmod_eq_of_le (by omega) (by omega)
theorem pk_sneg {a b : Nat} (hb : b < 2 ^ 30) (h : a < b) : nI a - nI b < 0 := by
  rw [Int32.lt_iff_toInt_lt, pk_sub_toInt (by omega) hb, show (0 : Int32).toInt = 0 from by decide]
  omega
theorem pk_ix (x : Int32) {n : Nat} (hn : n < 2 ^ 31) : x < 0 ∨ nI n ≤ x ∨ ∃ j : Nat, j < n ∧ x = nI j := by
  by_cases h : x < 0
  · exact Or.inl h
  · obtain ⟨j, hj, rfl⟩ := nI_of h
    by_cases h2 : j < n
    · exact Or.inr (Or.inr ⟨j, h2, rfl⟩)
    · exact Or.inr (Or.inl (nI_le (by omega) hj))
theorem pk_le {x y : Int32} {A B : Prop} (a b : Nat) (f : a ≤ b → A) (g : b < a → B) (hx : x = nI a := by rfl) (hy : y = nI b := by rfl) (ha : a < 2 ^ 31 := by omega) (hb : b < 2 ^ 31 := by omega) : (x ≤ y → A) ∧ (¬ x ≤ y → B) := by
  subst hx hy
  rw [nI_leI ha hb]
  exact ⟨f, fun z => g (by omega)⟩
theorem pk_lt {x y : Int32} {A B : Prop} (a b : Nat) (f : a < b → A) (g : b ≤ a → B) (hx : x = nI a := by rfl) (hy : y = nI b := by rfl) (ha : a < 2 ^ 31 := by omega) (hb : b < 2 ^ 31 := by omega) : (x < y → A) ∧ (¬ x < y → B) := by
  subst hx hy
  rw [nI_ltI ha hb]
  exact ⟨f, fun z => g (by omega)⟩
theorem pk_eq {x y : Int32} {A B : Prop} (a b : Nat) (f : a = b → A) (g : a ≠ b → B) (hx : x = nI a := by rfl) (hy : y = nI b := by rfl) (ha : a < 2 ^ 31 := by omega) (hb : b < 2 ^ 31 := by omega) : (x = y → A) ∧ (¬ x = y → B) := by
  subst hx hy
  rw [nI_eq ha hb]
  exact ⟨f, g⟩
theorem pk_in {x : Int32} (n N : Nat) (h : n < N) (hx : x = nI n := by rfl) (hN : N < 2 ^ 31 := by omega) : vp_in x N := by
  subst hx
  exact vp_in_nI h hN
theorem pk_cl {x : Int32} (n : Nat) (hx : x = nI n := by rfl) (h : n < 2 ^ 31 := by omega) : x.toNatClampNeg = n := by
  subst hx
  exact nI_clamp h
theorem pk_least (P : Nat → Prop) (h : ∃ k, P k) : ∃ k, P k ∧ ∀ j, j < k → ¬ P j := by
  obtain ⟨k, hk⟩ := h
  induction k using Nat.strongRecOn with
  | ind k ih =>
    by_cases e : ∃ j, j < k ∧ P j
    · obtain ⟨j, hj, pj⟩ := e
      exact ih j hj pj
    · exact ⟨k, hk, fun j hj pj => e ⟨j, hj, pj⟩⟩
theorem ek_if {c d A B : Prop} (e : c ↔ d) (f : d → A) (g : ¬ d → B) : (c → A) ∧ (¬ c → B) :=
  ⟨fun z => f (e.mp z), fun z => g (fun y => z (e.mpr y))⟩
theorem ek_v {α : Sort _} {P : α → Prop} {a b : α} (e : a = b) (h : P b) : P a := e ▸ h
def bt_B (x : Int32) : Prop := x = 0 ∨ x = 1
theorem bt_n0 : vp_nar .boolean 0 = 0 := by decide
theorem bt_n1 : vp_nar .boolean 1 = 1 := by decide
theorem bt_nB {x : Int32} (h : bt_B x) : vp_nar .boolean x = x := by
  rcases h with h | h
  · rw [h]; exact bt_n0
  · rw [h]; exact bt_n1
theorem bt_nar0 : narrow .boolean (.int 0) = .int 0 := by decide
theorem bt_nar1 : narrow .boolean (.int 1) = .int 1 := by decide
theorem bt_narB {x : Int32} (h : bt_B x) : narrow .boolean (.int x) = .int x := by
  rcases h with h | h
  · rw [h]; exact bt_nar0
  · rw [h]; exact bt_nar1
theorem bt_B0 : bt_B 0 := Or.inl rfl
theorem bt_B1 : bt_B 1 := Or.inr rfl
theorem bt_Bu {f : Nat → Int32} {k : Nat} {x : Int32} (h : ∀ i, bt_B (f i)) (hx : bt_B x) : ∀ i, bt_B (upd f k x i) := by
  intro i
  by_cases e : i = k
  · rw [e, pk_us]; exact hx
  · rw [pk_un e]; exact h i
theorem bt_neg {n : Nat} (h : n < 2 ^ 31) : nI n ≠ -1 := by
  intro e
  have := congrArg Int32.toInt e
  rw [nI_toInt h] at this
  have h2 : (-1 : Int32).toInt = -1 := by decide
  omega
theorem bt_inj {a b : Nat} (ha : a < 2 ^ 31) (hb : b < 2 ^ 31) (h : nI a = nI b) : a = b := (nI_eq ha hb).mp h
end
section
def bt_N (st : Nat → Int32) (x : Int32) : Prop := ∃ n, n < 48 ∧ x = nI n ∧ st n ≠ 0
/-- a cover of X's at i and of Y's at j hold the same -/
def bt_C (st cc cv mn mc vc ms me cr : Nat → Int32) (i j : Nat) : Prop :=
  (cc i = 0 ∧ vc j = -1) ∨
  (∃ c, 1 ≤ c ∧ c ≤ 5 ∧ cc i = nI c ∧ ms j = nI c ∧ cv i = vc j ∧ bt_N st (cv i) ∧
    ∀ m, m < c → mn (5 * i + m) = me (5 * j + m) ∧ mc (5 * i + m) = cr (5 * j + m) ∧ bt_N st (mn (5 * i + m)))
/-- a descriptor of X's at i and of Y's at j hold the same -/
def bt_D (st dr sz oc on om op hd hN ps la : Nat → Int32) (i j : Nat) : Prop :=
  ∃ c, c ≤ 5 ∧ oc i = nI c ∧ hd j = nI c ∧
    (∀ m, m < c → on (5 * i + m) = hN (5 * j + m) ∧ bt_N st (on (5 * i + m))) ∧
    (1 ≤ c → ∃ n, n < 48 ∧ on (5 * i) = nI n ∧
      ((dr n ≠ 0 ∧ ∃ q, q < c ∧ om i = nI q ∧ ps j = nI q ∧ op i = la j) ∨
       (dr n = 0 ∧ ∃ q z, q ≤ z ∧ z ≤ 6 ∧ sz n = nI z ∧ op i = nI q ∧ ps j = nI q)))
/-- the DOT of process p -/
def bt_T (st nm dl dn dy dm : Nat → Int32) (p : Nat) : Prop :=
  ∃ L, 1 ≤ L ∧ L ≤ 7 ∧ dl p = nI L ∧ dn (7 * p) = 0 ∧
    ∀ i, i < L → dn (7 * p + i) = dy (7 * p + i) ∧ ∃ n, n < 48 ∧ dn (7 * p + i) = nI n ∧ st n ≠ 0 ∧ (1 ≤ i → dm (7 * p + i) = nm n)
def bt_A (st dr pa sz : Nat → Int32) : Prop :=
  (∀ i, bt_B (dr i)) ∧ (∀ n, n < 3 → st n ≠ 0) ∧
  (∀ n, n < 48 → (3 ≤ n → st n ≠ 0 → ∃ q, q < 48 ∧ pa n = nI q) ∧ (dr n = 0 → ∃ z, z ≤ 6 ∧ sz n = nI z) ∧ (dr n ≠ 0 → sz n = 0))
def bt_S (th sp sY : Nat → Int32) (s s' : Nat → Nat) : Prop :=
  (∀ p, p < 4 → sp p = nI (s p) ∧ s p < 4 ∧ sY p = nI (s' p) ∧ s' p < 4) ∧
  (∀ p q, p < 4 → q < 4 → th p ≠ 0 → th q ≠ 0 → (s p = s q ↔ s' p = s' q))
def bt_R (st dr nm pa sz th dl sp tb dn cc cv mn mc oc on om op sY tY dy dm vc ms me cr hd hN ps la : Nat → Int32) (s s' t t' : Nat → Nat) : Prop :=
  bt_A st dr pa sz ∧ (∀ i, bt_B (mc i)) ∧ (∀ i, bt_B (cr i)) ∧ bt_S th sp sY s s' ∧ bt_S th tb tY t t' ∧
  (∀ p, p < 4 → th p ≠ 0 → bt_T st nm dl dn dy dm p ∧
    (∀ k, k < 6 → bt_C st cc cv mn mc vc ms me cr (6 * s p + k) (6 * s' p + k)) ∧
    (∀ k, k < 4 → bt_D st dr sz oc on om op hd hN ps la (4 * t p + k) (4 * t' p + k)))
section
variable {st dr nm pa sz th dl sp tb dn cc cv mn mc oc on om op sY tY dy dm vc ms me cr hd hN ps la : Nat → Int32} {s s' t t' : Nat → Nat}
variable {st2 dr2 nm2 pa2 sz2 th2 dl2 sp2 tb2 dn2 cc2 cv2 mn2 mc2 oc2 on2 om2 op2 sY2 tY2 dy2 dm2 vc2 ms2 me2 cr2 hd2 hN2 ps2 la2 : Nat → Int32}
theorem bt_C_c {i j : Nat} (h : bt_C st cc cv mn mc vc ms me cr i j)
    (h1 : cc2 i = cc i ∧ cv2 i = cv i) (h2 : ∀ m, m < 5 → mn2 (5 * i + m) = mn (5 * i + m) ∧ mc2 (5 * i + m) = mc (5 * i + m))
    (h3 : vc2 j = vc j ∧ ms2 j = ms j) (h4 : ∀ m, m < 5 → me2 (5 * j + m) = me (5 * j + m) ∧ cr2 (5 * j + m) = cr (5 * j + m)) :
    bt_C st cc2 cv2 mn2 mc2 vc2 ms2 me2 cr2 i j := by
  rcases h with ⟨a, b⟩ | ⟨c, c1, c5, a, b, d, e, f⟩
  · exact Or.inl ⟨h1.1.trans a, h3.1.trans b⟩
  · refine Or.inr ⟨c, c1, c5, h1.1.trans a, h3.2.trans b, ?_, ?_, fun m hm => ?_⟩
    · rw [h1.2, h3.1]; exact d
    · rw [h1.2]; exact e
    · have hm5 : m < 5 := by omega
      rw [(h2 m hm5).1, (h2 m hm5).2, (h4 m hm5).1, (h4 m hm5).2]
      exact f m hm
theorem bt_N_m {x : Int32} (h : bt_N st x) (hm : ∀ n, n < 48 → x = nI n → st n ≠ 0 → st2 n ≠ 0) : bt_N st2 x := by
  obtain ⟨n, hN, e, z⟩ := h
  exact ⟨n, hN, e, hm n hN e z⟩
theorem bt_D_c {i j : Nat} (h : bt_D st dr sz oc on om op hd hN ps la i j)
    (h1 : oc2 i = oc i ∧ om2 i = om i ∧ op2 i = op i) (h2 : ∀ m, m < 5 → on2 (5 * i + m) = on (5 * i + m))
    (h3 : hd2 j = hd j ∧ ps2 j = ps j ∧ la2 j = la j) (h4 : ∀ m, m < 5 → hN2 (5 * j + m) = hN (5 * j + m)) :
    bt_D st dr sz oc2 on2 om2 op2 hd2 hN2 ps2 la2 i j := by
  obtain ⟨c, c5, a, b, f, g⟩ := h
  refine ⟨c, c5, h1.1.trans a, h3.1.trans b, fun m hm => ?_, fun h => ?_⟩
  · have hm5 : m < 5 := by omega
    rw [h2 m hm5, h4 m hm5]; exact f m hm
  · obtain ⟨n, hN, e, k⟩ := g h
    refine ⟨n, hN, (h2 0 (by omega)).trans e, ?_⟩
    rw [h1.2.1, h1.2.2, h3.2.1, h3.2.2]; exact k
/-- one cover changes, in the space of process p -/
theorem bt_upC {p k : Nat} (R : bt_R st dr nm pa sz th dl sp tb dn cc cv mn mc oc on om op sY tY dy dm vc ms me cr hd hN ps la s s' t t')
    (hp : p < 4) (hk : k < 6) (ht : th p ≠ 0)
    (h1 : ∀ x, x ≠ 6 * s p + k → cc2 x = cc x ∧ cv2 x = cv x)
    (h2 : ∀ x, (x < 5 * (6 * s p + k) ∨ 5 * (6 * s p + k) + 5 ≤ x) → mn2 x = mn x ∧ mc2 x = mc x)
    (h3 : ∀ x, x ≠ 6 * s' p + k → vc2 x = vc x ∧ ms2 x = ms x)
    (h4 : ∀ x, (x < 5 * (6 * s' p + k) ∨ 5 * (6 * s' p + k) + 5 ≤ x) → me2 x = me x ∧ cr2 x = cr x)
    (b1 : ∀ i, bt_B (mc2 i)) (b2 : ∀ i, bt_B (cr2 i))
    (hC : bt_C st cc2 cv2 mn2 mc2 vc2 ms2 me2 cr2 (6 * s p + k) (6 * s' p + k)) :
    bt_R st dr nm pa sz th dl sp tb dn cc2 cv2 mn2 mc2 oc on om op sY tY dy dm vc2 ms2 me2 cr2 hd hN ps la s s' t t' := by
  obtain ⟨RA, _, _, RS, RT, RP⟩ := R
  refine ⟨RA, b1, b2, RS, RT, fun q hq tY => ⟨(RP q hq tY).1, fun k' hk' => ?_, (RP q hq tY).2.2⟩⟩
  have sh := RS.2 q p hq hp tY ht
  by_cases e : s q = s p ∧ k' = k
  · obtain ⟨e1, e2⟩ := e
    rw [e1, e2, sh.mp e1]; exact hC
  · have n1 : 6 * s q + k' ≠ 6 * s p + k := by
      intro z; exact e ⟨by omega, by omega⟩
    have n2 : 6 * s' q + k' ≠ 6 * s' p + k := by
      intro z
      have e1 : s' q = s' p := by omega
      exact e ⟨sh.mpr e1, by omega⟩
    refine bt_C_c ((RP q hq tY).2.1 k' hk') (h1 _ n1) (fun m hm => h2 _ ?_) (h3 _ n2) (fun m hm => h4 _ ?_)
    · rcases Nat.lt_or_gt_of_ne n1 with z | z <;> omega
    · rcases Nat.lt_or_gt_of_ne n2 with z | z <;> omega
/-- one descriptor changes, in the table of process p -/
theorem bt_upD {p k : Nat} (R : bt_R st dr nm pa sz th dl sp tb dn cc cv mn mc oc on om op sY tY dy dm vc ms me cr hd hN ps la s s' t t')
    (hp : p < 4) (hk : k < 4) (ht : th p ≠ 0)
    (h1 : ∀ x, x ≠ 4 * t p + k → oc2 x = oc x ∧ om2 x = om x ∧ op2 x = op x)
    (h2 : ∀ x, (x < 5 * (4 * t p + k) ∨ 5 * (4 * t p + k) + 5 ≤ x) → on2 x = on x)
    (h3 : ∀ x, x ≠ 4 * t' p + k → hd2 x = hd x ∧ ps2 x = ps x ∧ la2 x = la x)
    (h4 : ∀ x, (x < 5 * (4 * t' p + k) ∨ 5 * (4 * t' p + k) + 5 ≤ x) → hN2 x = hN x)
    (hD : bt_D st dr sz oc2 on2 om2 op2 hd2 hN2 ps2 la2 (4 * t p + k) (4 * t' p + k)) :
    bt_R st dr nm pa sz th dl sp tb dn cc cv mn mc oc2 on2 om2 op2 sY tY dy dm vc ms me cr hd2 hN2 ps2 la2 s s' t t' := by
  obtain ⟨RA, B1, B2, RS, RT, RP⟩ := R
  refine ⟨RA, B1, B2, RS, RT, fun q hq tY => ⟨(RP q hq tY).1, (RP q hq tY).2.1, fun k' hk' => ?_⟩⟩
  have sh := RT.2 q p hq hp tY ht
  by_cases e : t q = t p ∧ k' = k
  · obtain ⟨e1, e2⟩ := e
    rw [e1, e2, sh.mp e1]; exact hD
  · have n1 : 4 * t q + k' ≠ 4 * t p + k := by
      intro z; exact e ⟨by omega, by omega⟩
    have n2 : 4 * t' q + k' ≠ 4 * t' p + k := by
      intro z
      have e1 : t' q = t' p := by omega
      exact e ⟨sh.mpr e1, by omega⟩
    refine bt_D_c ((RP q hq tY).2.2 k' hk') (h1 _ n1) (fun m hm => h2 _ ?_) (h3 _ n2) (fun m hm => h4 _ ?_)
    · rcases Nat.lt_or_gt_of_ne n1 with z | z <;> omega
    · rcases Nat.lt_or_gt_of_ne n2 with z | z <;> omega
/-- the DOT of process p changes -/
theorem bt_upT {p : Nat} (R : bt_R st dr nm pa sz th dl sp tb dn cc cv mn mc oc on om op sY tY dy dm vc ms me cr hd hN ps la s s' t t')
    (h1 : ∀ q, q ≠ p → dl2 q = dl q)
    (h2 : ∀ x, (x < 7 * p ∨ 7 * p + 7 ≤ x) → dn2 x = dn x ∧ dy2 x = dy x ∧ dm2 x = dm x)
    (hT : bt_T st nm dl2 dn2 dy2 dm2 p) :
    bt_R st dr nm pa sz th dl2 sp tb dn2 cc cv mn mc oc on om op sY tY dy2 dm2 vc ms me cr hd hN ps la s s' t t' := by
  obtain ⟨RA, B1, B2, RS, RT, RP⟩ := R
  refine ⟨RA, B1, B2, RS, RT, fun q hq tY => ⟨?_, (RP q hq tY).2.1, (RP q hq tY).2.2⟩⟩
  by_cases e : q = p
  · rw [e]; exact hT
  · obtain ⟨L, L1, L7, a, b, f⟩ := (RP q hq tY).1
    have far : ∀ i, i < 7 → 7 * q + i < 7 * p ∨ 7 * p + 7 ≤ 7 * q + i := by
      intro i hi; rcases Nat.lt_or_gt_of_ne e with z | z <;> omega
    refine ⟨L, L1, L7, (h1 q e).trans a, (h2 (7 * q) (far 0 (by omega))).1.trans b, fun i hi => ?_⟩
    have hh := h2 (7 * q + i) (far i (by omega))
    rw [hh.1, hh.2.1, hh.2.2]; exact f i hi
end
end
section
def bt_hd (dl dn : Nat → Int32) (p x : Nat) : Prop := ∃ i L, i < L ∧ L ≤ 7 ∧ dl p = nI L ∧ dn (7 * p + i) = nI x
def bt_hs (cc cv mn : Nat → Int32) (a x : Nat) : Prop :=
  ∃ k, k < 6 ∧ ∃ c, 1 ≤ c ∧ c ≤ 5 ∧ cc (6 * a + k) = nI c ∧ (cv (6 * a + k) = nI x ∨ ∃ m, m < c ∧ mn (5 * (6 * a + k) + m) = nI x)
def bt_ht (oc on : Nat → Int32) (a x : Nat) : Prop :=
  ∃ k, k < 4 ∧ ∃ c, c ≤ 5 ∧ oc (4 * a + k) = nI c ∧ ∃ m, m < c ∧ on (5 * (4 * a + k) + m) = nI x
def bt_h1 (dl dn cc cv mn oc on : Nat → Int32) (p a b x : Nat) : Prop := bt_hd dl dn p x ∨ bt_hs cc cv mn a x ∨ bt_ht oc on b x
def bt_H (th dl dn cc cv mn oc on : Nat → Int32) (s t : Nat → Nat) (x : Nat) : Prop :=
  ∃ p, p < 4 ∧ th p ≠ 0 ∧ bt_h1 dl dn cc cv mn oc on p (s p) (t p) x
section
variable {st dr nm pa sz th dl sp tb dn cc cv mn mc oc on om op sY tY dy dm vc ms me cr hd hN ps la : Nat → Int32} {s s' t t' : Nat → Nat}
variable {st2 dr2 nm2 pa2 sz2 th2 dl2 sp2 tb2 dn2 cc2 cv2 mn2 mc2 oc2 on2 om2 op2 sY2 tY2 dy2 dm2 vc2 ms2 me2 cr2 hd2 hN2 ps2 la2 : Nat → Int32}
/-- the nodes change, but for what is held -/
theorem bt_upN (R : bt_R st dr nm pa sz th dl sp tb dn cc cv mn mc oc on om op sY tY dy dm vc ms me cr hd hN ps la s s' t t')
    (hA : bt_A st2 dr2 pa2 sz2)
    (hh : ∀ n, n < 48 → bt_H th dl dn cc cv mn oc on s t n → st n ≠ 0 → st2 n ≠ 0 ∧ nm2 n = nm n ∧ dr2 n = dr n ∧
      (dr n = 0 → ∀ z, z ≤ 6 → sz n = nI z → ∃ z2, z ≤ z2 ∧ z2 ≤ 6 ∧ sz2 n = nI z2)) :
    bt_R st2 dr2 nm2 pa2 sz2 th dl sp tb dn cc cv mn mc oc on om op sY tY dy dm vc ms me cr hd hN ps la s s' t t' := by
  obtain ⟨RA, B1, B2, RS, RT, RP⟩ := R
  refine ⟨hA, B1, B2, RS, RT, fun p hp tp => ⟨?_, fun k hk => ?_, fun k hk => ?_⟩⟩
  · obtain ⟨L, L1, L7, a, b, f⟩ := (RP p hp tp).1
    refine ⟨L, L1, L7, a, b, fun i hi => ⟨(f i hi).1, ?_⟩⟩
    obtain ⟨_, n, hN, e, z, g⟩ := f i hi
    have q := hh n hN ⟨p, hp, tp, Or.inl ⟨i, L, hi, L7, a, e⟩⟩ z
    refine ⟨n, hN, e, q.1, fun h => ?_⟩
    rw [q.2.1]; exact g h
  · rcases (RP p hp tp).2.1 k hk with y | ⟨c, c1, c5, a, b, d, e, f⟩
    · exact Or.inl y
    · refine Or.inr ⟨c, c1, c5, a, b, d, ?_, fun m hm => ⟨(f m hm).1, (f m hm).2.1, ?_⟩⟩
      · exact bt_N_m e (fun n hN e2 z => (hh n hN ⟨p, hp, tp, Or.inr (Or.inl ⟨k, hk, c, c1, c5, a, Or.inl e2⟩)⟩ z).1)
      · exact bt_N_m (f m hm).2.2 (fun n hN e2 z => (hh n hN ⟨p, hp, tp, Or.inr (Or.inl ⟨k, hk, c, c1, c5, a, Or.inr ⟨m, hm, e2⟩⟩)⟩ z).1)
  · obtain ⟨c, c5, a, b, f, g⟩ := (RP p hp tp).2.2 k hk
    refine ⟨c, c5, a, b, fun m hm => ⟨(f m hm).1, ?_⟩, fun h => ?_⟩
    · exact bt_N_m (f m hm).2 (fun n hN e2 z => (hh n hN ⟨p, hp, tp, Or.inr (Or.inr ⟨k, hk, c, c5, a, m, hm, e2⟩)⟩ z).1)
    · obtain ⟨n, hN, e, y⟩ := g h
      have z : st n ≠ 0 := by
        obtain ⟨n2, hN2, e2, z2⟩ := (f 0 (by omega)).2
        have e3 : nI n = nI n2 := e.symm.trans e2
        rw [bt_inj (by omega) (by omega) e3]; exact z2
      have q := hh n hN ⟨p, hp, tp, Or.inr (Or.inr ⟨k, hk, c, c5, a, 0, by omega, e⟩)⟩ z
      refine ⟨n, hN, e, ?_⟩
      rcases y with ⟨y1, y2⟩ | ⟨y1, q', z', y2, y3, y4, y5, y6⟩
      · exact Or.inl ⟨by rw [q.2.2.1]; exact y1, y2⟩
      · obtain ⟨z2, l1, l2, l3⟩ := q.2.2.2 y1 z' y3 y4
        exact Or.inr ⟨by rw [q.2.2.1]; exact y1, q', z2, by omega, l2, l3, y5, y6⟩
theorem bt_H_st (R : bt_R st dr nm pa sz th dl sp tb dn cc cv mn mc oc on om op sY tY dy dm vc ms me cr hd hN ps la s s' t t') {x : Nat} (hx : x < 48)
    (h : bt_H th dl dn cc cv mn oc on s t x) : st x ≠ 0 := by
  obtain ⟨p, hp, tp, h⟩ := h
  have RP := R.2.2.2.2.2 p hp tp
  have fin : ∀ y : Int32, y = nI x → bt_N st y → st x ≠ 0 := by
    intro y e ⟨n, hN, e2, z⟩
    have e3 : nI x = nI n := e.symm.trans e2
    rw [bt_inj (by omega) (by omega) e3]; exact z
  rcases h with ⟨i, L, hi, L7, a, e⟩ | ⟨k, hk, c, c1, c5, a, e⟩ | ⟨k, hk, c, c5, a, m, hm, e⟩
  · obtain ⟨L2, _, L72, a2, _, f⟩ := RP.1
    have e1 : L = L2 := bt_inj (by omega) (by omega) (a.symm.trans a2)
    obtain ⟨_, n, hN, e2, z, _⟩ := f i (by omega)
    exact fin _ e ⟨n, hN, e2, z⟩
  · rcases RP.2.1 k hk with y | ⟨c2, c12, c52, a2, b, d, e2, f⟩
    · have : nI c = nI 0 := a.symm.trans y.1
      have := bt_inj (by omega) (by omega) this
      omega
    · have e3 : c = c2 := bt_inj (by omega) (by omega) (a.symm.trans a2)
      rcases e with e | ⟨m, hm, e⟩
      · exact fin _ e e2
      · exact fin _ e (f m (by omega)).2.2
  · obtain ⟨c2, c52, a2, b, f, g⟩ := RP.2.2 k hk
    have e3 : c = c2 := bt_inj (by omega) (by omega) (a.symm.trans a2)
    exact fin _ e (f m (by omega)).2
/-- what the sweep leaves -/
def bt_sw (st : Nat → Int32) (H : Nat → Prop) (st2 : Nat → Int32) : Prop :=
  ∀ n, (3 ≤ n ∧ n < 48 ∧ st n = 2 ∧ ¬ H n → st2 n = 0) ∧ (¬ (3 ≤ n ∧ n < 48 ∧ st n = 2 ∧ ¬ H n) → st2 n = st n)
theorem bt_upSw (R : bt_R st dr nm pa sz th dl sp tb dn cc cv mn mc oc on om op sY tY dy dm vc ms me cr hd hN ps la s s' t t')
    (h : bt_sw st (bt_H th dl dn cc cv mn oc on s t) st2) :
    bt_R st2 dr nm pa sz th dl sp tb dn cc cv mn mc oc on om op sY tY dy dm vc ms me cr hd hN ps la s s' t t' := by
  refine bt_upN R ⟨R.1.1, fun n hN => ?_, fun n hN => ⟨fun h3 h1 => ?_, (R.1.2.2 n hN).2⟩⟩ (fun n hN hH hz => ⟨?_, rfl, rfl, fun _ z hz6 e => ⟨z, Nat.le_refl _, hz6, e⟩⟩)
  · rw [(h n).2 (by omega)]; exact R.1.2.1 n hN
  · refine (R.1.2.2 n hN).1 h3 ?_
    by_cases e : 3 ≤ n ∧ n < 48 ∧ st n = 2 ∧ ¬ bt_H th dl dn cc cv mn oc on s t n
    · exact absurd ((h n).1 e) h1
    · rw [← (h n).2 e]; exact h1
  · rw [(h n).2 (fun e => e.2.2.2 hH)]; exact hz
/-- covers change where no process has its space -/
theorem bt_frC {a b : Nat} (R : bt_R st dr nm pa sz th dl sp tb dn cc cv mn mc oc on om op sY tY dy dm vc ms me cr hd hN ps la s s' t t')
    (fa : ∀ p, p < 4 → th p ≠ 0 → s p ≠ a) (fb : ∀ p, p < 4 → th p ≠ 0 → s' p ≠ b)
    (h1 : ∀ x, (x < 6 * a ∨ 6 * a + 6 ≤ x) → cc2 x = cc x ∧ cv2 x = cv x)
    (h2 : ∀ x, (x < 30 * a ∨ 30 * a + 30 ≤ x) → mn2 x = mn x ∧ mc2 x = mc x)
    (h3 : ∀ x, (x < 6 * b ∨ 6 * b + 6 ≤ x) → vc2 x = vc x ∧ ms2 x = ms x)
    (h4 : ∀ x, (x < 30 * b ∨ 30 * b + 30 ≤ x) → me2 x = me x ∧ cr2 x = cr x)
    (b1 : ∀ i, bt_B (mc2 i)) (b2 : ∀ i, bt_B (cr2 i)) :
    bt_R st dr nm pa sz th dl sp tb dn cc2 cv2 mn2 mc2 oc on om op sY tY dy dm vc2 ms2 me2 cr2 hd hN ps la s s' t t' := by
  obtain ⟨RA, _, _, RS, RT, RP⟩ := R
  refine ⟨RA, b1, b2, RS, RT, fun q hq tY => ⟨(RP q hq tY).1, fun k hk => ?_, (RP q hq tY).2.2⟩⟩
  have n1 := fa q hq tY
  have n2 := fb q hq tY
  refine bt_C_c ((RP q hq tY).2.1 k hk) (h1 _ ?_) (fun m hm => h2 _ ?_) (h3 _ ?_) (fun m hm => h4 _ ?_)
  · rcases Nat.lt_or_gt_of_ne n1 with z | z <;> omega
  · rcases Nat.lt_or_gt_of_ne n1 with z | z <;> omega
  · rcases Nat.lt_or_gt_of_ne n2 with z | z <;> omega
  · rcases Nat.lt_or_gt_of_ne n2 with z | z <;> omega
theorem bt_frD {a b : Nat} (R : bt_R st dr nm pa sz th dl sp tb dn cc cv mn mc oc on om op sY tY dy dm vc ms me cr hd hN ps la s s' t t')
    (fa : ∀ p, p < 4 → th p ≠ 0 → t p ≠ a) (fb : ∀ p, p < 4 → th p ≠ 0 → t' p ≠ b)
    (h1 : ∀ x, (x < 4 * a ∨ 4 * a + 4 ≤ x) → oc2 x = oc x ∧ om2 x = om x ∧ op2 x = op x)
    (h2 : ∀ x, (x < 20 * a ∨ 20 * a + 20 ≤ x) → on2 x = on x)
    (h3 : ∀ x, (x < 4 * b ∨ 4 * b + 4 ≤ x) → hd2 x = hd x ∧ ps2 x = ps x ∧ la2 x = la x)
    (h4 : ∀ x, (x < 20 * b ∨ 20 * b + 20 ≤ x) → hN2 x = hN x) :
    bt_R st dr nm pa sz th dl sp tb dn cc cv mn mc oc2 on2 om2 op2 sY tY dy dm vc ms me cr hd2 hN2 ps2 la2 s s' t t' := by
  obtain ⟨RA, B1, B2, RS, RT, RP⟩ := R
  refine ⟨RA, B1, B2, RS, RT, fun q hq tY => ⟨(RP q hq tY).1, (RP q hq tY).2.1, fun k hk => ?_⟩⟩
  have n1 := fa q hq tY
  have n2 := fb q hq tY
  refine bt_D_c ((RP q hq tY).2.2 k hk) (h1 _ ?_) (fun m hm => h2 _ ?_) (h3 _ ?_) (fun m hm => h4 _ ?_)
  · rcases Nat.lt_or_gt_of_ne n1 with z | z <;> omega
  · rcases Nat.lt_or_gt_of_ne n1 with z | z <;> omega
  · rcases Nat.lt_or_gt_of_ne n2 with z | z <;> omega
  · rcases Nat.lt_or_gt_of_ne n2 with z | z <;> omega
/-- a process comes -/
theorem bt_S_add {c a b : Nat} (RS : bt_S th sp sY s s') (hc : c < 4) (tc : th c = 0) (ha : a < 4) (hb : b < 4)
    (sh : ∀ q, q < 4 → th q ≠ 0 → (s q = a ↔ s' q = b)) :
    bt_S (upd th c 1) (upd sp c (nI a)) (upd sY c (nI b)) (fun q => if q = c then a else s q) (fun q => if q = c then b else s' q) := by
  refine ⟨fun p hp => ?_, fun p q hp hq tp tY => ?_⟩
  · by_cases e : p = c
    · simp only [e, if_true]; exact ⟨pk_us, ha, pk_us, hb⟩
    · simp only [e, if_false]; rw [pk_un e, pk_un e]; exact RS.1 p hp
  · by_cases e : p = c
    · by_cases e2 : q = c
      · simp only [e, e2, if_true]
      · simp only [e, e2, if_true, if_false]
        rw [pk_un e2] at tY
        have := sh q hq tY
        exact ⟨fun z => (this.mp z.symm).symm, fun z => (this.mpr z.symm).symm⟩
    · rw [pk_un e] at tp
      by_cases e2 : q = c
      · simp only [e, e2, if_true, if_false]
        exact sh p hp tp
      · simp only [e, e2, if_false]
        rw [pk_un e2] at tY
        exact RS.2 p q hp hq tp tY
theorem bt_add {c a b a' b' : Nat} (R : bt_R st dr nm pa sz th dl sp tb dn cc cv mn mc oc on om op sY tY dy dm vc ms me cr hd hN ps la s s' t t')
    (hc : c < 4) (tc : th c = 0) (ha : a < 4) (hb : b < 4) (ha' : a' < 4) (hb' : b' < 4)
    (sh : ∀ q, q < 4 → th q ≠ 0 → (s q = a ↔ s' q = b)) (sh' : ∀ q, q < 4 → th q ≠ 0 → (t q = a' ↔ t' q = b'))
    (hT : bt_T st nm dl dn dy dm c)
    (hC : ∀ k, k < 6 → bt_C st cc cv mn mc vc ms me cr (6 * a + k) (6 * b + k))
    (hD : ∀ k, k < 4 → bt_D st dr sz oc on om op hd hN ps la (4 * a' + k) (4 * b' + k)) :
    bt_R st dr nm pa sz (upd th c 1) dl (upd sp c (nI a)) (upd tb c (nI a')) dn cc cv mn mc oc on om op (upd sY c (nI b)) (upd tY c (nI b')) dy dm vc ms me cr hd hN ps la
      (fun q => if q = c then a else s q) (fun q => if q = c then b else s' q) (fun q => if q = c then a' else t q) (fun q => if q = c then b' else t' q) := by
  obtain ⟨RA, B1, B2, RS, RT, RP⟩ := R
  refine ⟨RA, B1, B2, bt_S_add RS hc tc ha hb sh, bt_S_add RT hc tc ha' hb' sh', fun p hp tp => ?_⟩
  by_cases e : p = c
  · simp only [e, if_true]; exact ⟨hT, hC, hD⟩
  · simp only [e, if_false]
    rw [pk_un e] at tp
    exact RP p hp tp
/-- a process goes -/
theorem bt_del {c : Nat} (R : bt_R st dr nm pa sz th dl sp tb dn cc cv mn mc oc on om op sY tY dy dm vc ms me cr hd hN ps la s s' t t') :
    bt_R st dr nm pa sz (upd th c 0) dl sp tb dn cc cv mn mc oc on om op sY tY dy dm vc ms me cr hd hN ps la s s' t t' := by
  obtain ⟨RA, B1, B2, RS, RT, RP⟩ := R
  have k : ∀ p, upd th c 0 p ≠ 0 → th p ≠ 0 := by
    intro p h
    by_cases e : p = c
    · rw [e, pk_us] at h; exact absurd rfl h
    · rw [pk_un e] at h; exact h
  exact ⟨RA, B1, B2, ⟨RS.1, fun p q hp hq tp tY => RS.2 p q hp hq (k p tp) (k q tY)⟩, ⟨RT.1, fun p q hp hq tp tY => RT.2 p q hp hq (k p tp) (k q tY)⟩, fun p hp tp => RP p hp (k p tp)⟩
end
end
section
def bt_o : Option Nat → Int32
  | none => -1
  | some n => nI n
def bt_f (P : Nat → Prop) [DecidablePred P] : Nat → Nat → Option Nat
  | _, 0 => none
  | i, d + 1 => if P i then some i else bt_f P (i + 1) d
theorem bt_f_s {P : Nat → Prop} [DecidablePred P] : ∀ (d i : Nat) {n : Nat}, bt_f P i d = some n → i ≤ n ∧ n < i + d ∧ P n ∧ ∀ j, i ≤ j → j < n → ¬ P j
  | 0, i, n, h => by
    have h2 : (none : Option Nat) = some n := h
    cases h2
  | d + 1, i, n, h => by
    simp only [bt_f] at h
    by_cases e : P i
    · rw [if_pos e] at h
      have : i = n := Option.some.inj h
      subst this
      exact ⟨Nat.le_refl _, by omega, e, fun j h1 h2 => by omega⟩
    · rw [if_neg e] at h
      obtain ⟨a, b, c, f⟩ := bt_f_s d (i + 1) h
      refine ⟨by omega, by omega, c, fun j h1 h2 => ?_⟩
      by_cases z : j = i
      · rw [z]; exact e
      · exact f j (by omega) h2
theorem bt_f_n {P : Nat → Prop} [DecidablePred P] : ∀ (d i : Nat), bt_f P i d = none → ∀ j, i ≤ j → j < i + d → ¬ P j
  | 0, i, _, j, h1, h2 => by omega
  | d + 1, i, h, j, h1, h2 => by
    simp only [bt_f] at h
    by_cases e : P i
    · rw [if_pos e] at h; cases h
    · rw [if_neg e] at h
      by_cases z : j = i
      · rw [z]; exact e
      · exact bt_f_n d (i + 1) h j (by omega) (by omega)
def bt_ct (P : Nat → Prop) [DecidablePred P] : Nat → Nat → Int32 → Int32
  | _, 0, c => c
  | i, d + 1, c => bt_ct P (i + 1) d (if P i then c + 1 else c)
def bt_nx (P : Nat → Prop) [DecidablePred P] (g : Nat → Int32) : Nat → Nat → Option Nat → Option Nat
  | _, 0, b => b
  | i, d + 1, none => bt_nx P g (i + 1) d (if P i then some i else none)
  | i, d + 1, some b => bt_nx P g (i + 1) d (if P i ∧ ¬ g b ≤ g i then some i else some b)
theorem bt_nx_in {P : Nat → Prop} [DecidablePred P] {g : Nat → Int32} (Q : Nat → Prop) : ∀ (d i : Nat) (b : Option Nat), (∀ j, i ≤ j → j < i + d → P j → Q j) → (∀ n, b = some n → Q n) → ∀ n, bt_nx P g i d b = some n → Q n
  | 0, i, b, _, h2, n, e => by
    cases b with
    | none =>
      have e2 : (none : Option Nat) = some n := e
      cases e2
    | some b =>
      have e2 : some b = some n := e
      exact h2 n e2
  | d + 1, i, none, h1, h2, n, e => by
    simp only [bt_nx] at e
    refine bt_nx_in Q d (i + 1) _ (fun j a b c => h1 j (by omega) (by omega) c) (fun m hm => ?_) n e
    by_cases z : P i
    · rw [if_pos z] at hm
      have : i = m := Option.some.inj hm
      subst this
      exact h1 i (Nat.le_refl _) (by omega) z
    · rw [if_neg z] at hm; cases hm
  | d + 1, i, some b, h1, h2, n, e => by
    simp only [bt_nx] at e
    refine bt_nx_in Q d (i + 1) _ (fun j a b c => h1 j (by omega) (by omega) c) (fun m hm => ?_) n e
    by_cases z : P i ∧ ¬ g b ≤ g i
    · rw [if_pos z] at hm
      have : i = m := Option.some.inj hm
      subst this
      exact h1 i (Nat.le_refl _) (by omega) z.1
    · rw [if_neg z] at hm
      exact h2 m hm
-- paths
theorem bt_row (x : Int32) (h : x < 0) : ∃ m, m < 2 ^ 31 ∧ -1 - x = nI m := by
  have h0 : x.toInt < 0 := by
    have := Int32.lt_iff_toInt_lt.mp h
    rw [show (0 : Int32).toInt = 0 from by decide] at this
    exact this
  have h1 : -2147483648 ≤ x.toInt := by have := Int32.le_toInt x; omega
  have e : (-1 - x).toInt = -1 - x.toInt := by
    rw [Int32.toInt_sub]
    have : (-1 : Int32).toInt = -1 := by decide
    rw [this]
    apply Int.bmod_eq_of_le <;> omega
  refine nI_of (fun z => ?_) 
  have := Int32.lt_iff_toInt_lt.mp z
  rw [e] at this
  have z0 : (0 : Int32).toInt = 0 := by decide
  rw [z0] at this
  omega
theorem bt_neg1 {q : Nat} (h : q < 2 ^ 31) : (-1 - nI q) < 0 := by
  rw [Int32.lt_iff_toInt_lt, Int32.toInt_sub, nI_toInt h]
  have a : (-1 : Int32).toInt = -1 := by decide
  have b : (0 : Int32).toInt = 0 := by decide
  rw [a, b, Int.bmod_eq_of_le (by omega) (by omega)]
  omega
theorem bt_neg2 (x : Int32) : -1 - (-1 - x) = x := by grind
theorem bt_dv (m j : Nat) : m / 11 ^ j / 11 = m / 11 ^ (j + 1) := by
  rw [Nat.div_div_eq_div_mul, Nat.pow_succ]
theorem bt_dv' (m j : Nat) : m / 11 / 11 ^ j = m / 11 ^ (j + 1) := by
  rw [Nat.div_div_eq_div_mul, Nat.pow_succ, Nat.mul_comm]
theorem bt_dig (m : Nat) (h : m < 2 ^ 31) : ∃ D, D ≤ 9 ∧ ∀ j, (j < D ↔ 0 < m / 11 ^ j) := by
  have h9 : m / 11 ^ 9 = 0 := Nat.div_eq_of_lt (by omega)
  obtain ⟨D, hD, hl⟩ := pk_least (fun k => m / 11 ^ k = 0) ⟨9, h9⟩
  refine ⟨D, ?_, fun j => ⟨fun hj => Nat.pos_of_ne_zero (hl j hj), fun hj => ?_⟩⟩
  · rcases Nat.lt_or_ge 9 D with z | z
    · exact absurd h9 (hl 9 z)
    · exact z
  · rcases Nat.lt_or_ge j D with z | z
    · exact z
    · have le : m / 11 ^ j ≤ m / 11 ^ D := Nat.div_le_div_left (Nat.pow_le_pow_right (by omega) z) (Nat.pow_pos (by omega))
      have hD' : m / 11 ^ D = 0 := hD
      omega
/-- m's elements, D of them, are those of a path -/
def bt_g (m D : Nat) : Prop := D ≤ 6 ∧ ∀ j, j < D → m / 11 ^ j % 11 ≠ 0
-- numbers of spaces and tables
theorem bt_pig3 : ∀ x y z : Fin 4, ∃ j : Fin 4, j ≠ x ∧ j ≠ y ∧ j ≠ z := by decide
theorem bt_pig {th : Nat → Int32} {s : Nat → Nat} {c : Nat} (hc : c < 4) (tc : th c = 0) (hs : ∀ p, p < 4 → s p < 4) :
    ∃ j, j < 4 ∧ ∀ q, q < 4 → th q ≠ 0 → s q ≠ j := by
  have key : ∀ x y z : Nat, x < 4 → y < 4 → z < 4 → (∀ q, q < 4 → q = c ∨ q = x ∨ q = y ∨ q = z) → ∃ j, j < 4 ∧ ∀ q, q < 4 → th q ≠ 0 → s q ≠ j := by
    intro x y z hx hy hz hq
    obtain ⟨j, a, b, d⟩ := bt_pig3 ⟨s x, hs x hx⟩ ⟨s y, hs y hy⟩ ⟨s z, hs z hz⟩
    refine ⟨j.val, j.isLt, fun q hq4 tq e => ?_⟩
    rcases hq q hq4 with h | h | h | h
    · rw [h] at tq; exact tq tc
    · exact a (Fin.ext (by rw [← e, h]))
    · exact b (Fin.ext (by rw [← e, h]))
    · exact d (Fin.ext (by rw [← e, h]))
  have : c = 0 ∨ c = 1 ∨ c = 2 ∨ c = 3 := by omega
  rcases this with h | h | h | h
  · exact key 1 2 3 (by omega) (by omega) (by omega) (fun q hq => by omega)
  · exact key 0 2 3 (by omega) (by omega) (by omega) (fun q hq => by omega)
  · exact key 0 1 3 (by omega) (by omega) (by omega) (fun q hq => by omega)
  · exact key 0 1 2 (by omega) (by omega) (by omega) (fun q hq => by omega)
theorem bt_or : ∀ m, m < 16 → ∀ a, a < 4 → nI m ||| ((1 : Int32) <<< (nI a &&& 31)) = nI (m ||| 2 ^ a) ∧ m ||| 2 ^ a < 16 ∧ ∀ j, j < 4 → (m ||| 2 ^ a).testBit j = (m.testBit j || decide (a = j)) := by decide +kernel
theorem bt_and : ∀ m, m < 16 → ∀ a, a < 4 → ((nI m &&& ((1 : Int32) <<< (nI a &&& 31))) = 0 ↔ m.testBit a = false) := by decide +kernel
end
section
theorem bt_ix4 {q : Nat} (h : q < 4) : ¬ nI q < 0 ∧ 0 ≤ nI q ∧ nI q < 4 ∧ ¬ (4 : Int32) ≤ nI q ∧ vp_in (nI q) 4 ∧ (nI q).toNatClampNeg = q ∧ ¬ nI q = -1 :=
  ⟨nI_pos (by omega), nI_pos' (by omega), nI_lt (b := 4) h (by decide), nI_ge (b := 4) h (by decide), vp_in_nI h (by decide), nI_clamp (by omega), bt_neg (by omega)⟩
theorem bt_ix5 {q : Nat} (h : q < 5) : ¬ nI q < 0 ∧ 0 ≤ nI q ∧ nI q < 5 ∧ ¬ (5 : Int32) ≤ nI q ∧ vp_in (nI q) 5 ∧ (nI q).toNatClampNeg = q ∧ ¬ nI q = -1 :=
  ⟨nI_pos (by omega), nI_pos' (by omega), nI_lt (b := 5) h (by decide), nI_ge (b := 5) h (by decide), vp_in_nI h (by decide), nI_clamp (by omega), bt_neg (by omega)⟩
theorem bt_ix6 {q : Nat} (h : q < 6) : ¬ nI q < 0 ∧ 0 ≤ nI q ∧ nI q < 6 ∧ ¬ (6 : Int32) ≤ nI q ∧ vp_in (nI q) 6 ∧ (nI q).toNatClampNeg = q ∧ ¬ nI q = -1 :=
  ⟨nI_pos (by omega), nI_pos' (by omega), nI_lt (b := 6) h (by decide), nI_ge (b := 6) h (by decide), vp_in_nI h (by decide), nI_clamp (by omega), bt_neg (by omega)⟩
theorem bt_ix7 {q : Nat} (h : q < 7) : ¬ nI q < 0 ∧ 0 ≤ nI q ∧ nI q < 7 ∧ ¬ (7 : Int32) ≤ nI q ∧ vp_in (nI q) 7 ∧ (nI q).toNatClampNeg = q ∧ ¬ nI q = -1 :=
  ⟨nI_pos (by omega), nI_pos' (by omega), nI_lt (b := 7) h (by decide), nI_ge (b := 7) h (by decide), vp_in_nI h (by decide), nI_clamp (by omega), bt_neg (by omega)⟩
theorem bt_ix11 {q : Nat} (h : q < 11) : ¬ nI q < 0 ∧ 0 ≤ nI q ∧ nI q < 11 ∧ ¬ (11 : Int32) ≤ nI q ∧ vp_in (nI q) 11 ∧ (nI q).toNatClampNeg = q ∧ ¬ nI q = -1 :=
  ⟨nI_pos (by omega), nI_pos' (by omega), nI_lt (b := 11) h (by decide), nI_ge (b := 11) h (by decide), vp_in_nI h (by decide), nI_clamp (by omega), bt_neg (by omega)⟩
theorem bt_ix16 {q : Nat} (h : q < 16) : ¬ nI q < 0 ∧ 0 ≤ nI q ∧ nI q < 16 ∧ ¬ (16 : Int32) ≤ nI q ∧ vp_in (nI q) 16 ∧ (nI q).toNatClampNeg = q ∧ ¬ nI q = -1 :=
  ⟨nI_pos (by omega), nI_pos' (by omega), nI_lt (b := 16) h (by decide), nI_ge (b := 16) h (by decide), vp_in_nI h (by decide), nI_clamp (by omega), bt_neg (by omega)⟩
theorem bt_ix24 {q : Nat} (h : q < 24) : ¬ nI q < 0 ∧ 0 ≤ nI q ∧ nI q < 24 ∧ ¬ (24 : Int32) ≤ nI q ∧ vp_in (nI q) 24 ∧ (nI q).toNatClampNeg = q ∧ ¬ nI q = -1 :=
  ⟨nI_pos (by omega), nI_pos' (by omega), nI_lt (b := 24) h (by decide), nI_ge (b := 24) h (by decide), vp_in_nI h (by decide), nI_clamp (by omega), bt_neg (by omega)⟩
theorem bt_ix28 {q : Nat} (h : q < 28) : ¬ nI q < 0 ∧ 0 ≤ nI q ∧ nI q < 28 ∧ ¬ (28 : Int32) ≤ nI q ∧ vp_in (nI q) 28 ∧ (nI q).toNatClampNeg = q ∧ ¬ nI q = -1 :=
  ⟨nI_pos (by omega), nI_pos' (by omega), nI_lt (b := 28) h (by decide), nI_ge (b := 28) h (by decide), vp_in_nI h (by decide), nI_clamp (by omega), bt_neg (by omega)⟩
theorem bt_ix48 {q : Nat} (h : q < 48) : ¬ nI q < 0 ∧ 0 ≤ nI q ∧ nI q < 48 ∧ ¬ (48 : Int32) ≤ nI q ∧ vp_in (nI q) 48 ∧ (nI q).toNatClampNeg = q ∧ ¬ nI q = -1 :=
  ⟨nI_pos (by omega), nI_pos' (by omega), nI_lt (b := 48) h (by decide), nI_ge (b := 48) h (by decide), vp_in_nI h (by decide), nI_clamp (by omega), bt_neg (by omega)⟩
theorem bt_ix80 {q : Nat} (h : q < 80) : ¬ nI q < 0 ∧ 0 ≤ nI q ∧ nI q < 80 ∧ ¬ (80 : Int32) ≤ nI q ∧ vp_in (nI q) 80 ∧ (nI q).toNatClampNeg = q ∧ ¬ nI q = -1 :=
  ⟨nI_pos (by omega), nI_pos' (by omega), nI_lt (b := 80) h (by decide), nI_ge (b := 80) h (by decide), vp_in_nI h (by decide), nI_clamp (by omega), bt_neg (by omega)⟩
theorem bt_ix120 {q : Nat} (h : q < 120) : ¬ nI q < 0 ∧ 0 ≤ nI q ∧ nI q < 120 ∧ ¬ (120 : Int32) ≤ nI q ∧ vp_in (nI q) 120 ∧ (nI q).toNatClampNeg = q ∧ ¬ nI q = -1 :=
  ⟨nI_pos (by omega), nI_pos' (by omega), nI_lt (b := 120) h (by decide), nI_ge (b := 120) h (by decide), vp_in_nI h (by decide), nI_clamp (by omega), bt_neg (by omega)⟩
theorem bt_ix288 {q : Nat} (h : q < 288) : ¬ nI q < 0 ∧ 0 ≤ nI q ∧ nI q < 288 ∧ ¬ (288 : Int32) ≤ nI q ∧ vp_in (nI q) 288 ∧ (nI q).toNatClampNeg = q ∧ ¬ nI q = -1 :=
  ⟨nI_pos (by omega), nI_pos' (by omega), nI_lt (b := 288) h (by decide), nI_ge (b := 288) h (by decide), vp_in_nI h (by decide), nI_clamp (by omega), bt_neg (by omega)⟩
theorem bt_m3 (p : Nat) : nI p * 3 = nI (3 * p) := by
  rw [show (3 : Int32) = nI 3 from rfl, pk_mul, Nat.mul_comm]
theorem bt_3m (p : Nat) : 3 * nI p = nI (3 * p) := by
  rw [show (3 : Int32) = nI 3 from rfl, pk_mul]
theorem bt_m4 (p : Nat) : nI p * 4 = nI (4 * p) := by
  rw [show (4 : Int32) = nI 4 from rfl, pk_mul, Nat.mul_comm]
theorem bt_4m (p : Nat) : 4 * nI p = nI (4 * p) := by
  rw [show (4 : Int32) = nI 4 from rfl, pk_mul]
theorem bt_m5 (p : Nat) : nI p * 5 = nI (5 * p) := by
  rw [show (5 : Int32) = nI 5 from rfl, pk_mul, Nat.mul_comm]
theorem bt_5m (p : Nat) : 5 * nI p = nI (5 * p) := by
  rw [show (5 : Int32) = nI 5 from rfl, pk_mul]
theorem bt_m6 (p : Nat) : nI p * 6 = nI (6 * p) := by
  rw [show (6 : Int32) = nI 6 from rfl, pk_mul, Nat.mul_comm]
theorem bt_6m (p : Nat) : 6 * nI p = nI (6 * p) := by
  rw [show (6 : Int32) = nI 6 from rfl, pk_mul]
theorem bt_m7 (p : Nat) : nI p * 7 = nI (7 * p) := by
  rw [show (7 : Int32) = nI 7 from rfl, pk_mul, Nat.mul_comm]
theorem bt_7m (p : Nat) : 7 * nI p = nI (7 * p) := by
  rw [show (7 : Int32) = nI 7 from rfl, pk_mul]
theorem bt_m11 (p : Nat) : nI p * 11 = nI (11 * p) := by
  rw [show (11 : Int32) = nI 11 from rfl, pk_mul, Nat.mul_comm]
theorem bt_11m (p : Nat) : 11 * nI p = nI (11 * p) := by
  rw [show (11 : Int32) = nI 11 from rfl, pk_mul]
theorem bt_m20 (p : Nat) : nI p * 20 = nI (20 * p) := by
  rw [show (20 : Int32) = nI 20 from rfl, pk_mul, Nat.mul_comm]
theorem bt_20m (p : Nat) : 20 * nI p = nI (20 * p) := by
  rw [show (20 : Int32) = nI 20 from rfl, pk_mul]
theorem bt_m30 (p : Nat) : nI p * 30 = nI (30 * p) := by
  rw [show (30 : Int32) = nI 30 from rfl, pk_mul, Nat.mul_comm]
theorem bt_30m (p : Nat) : 30 * nI p = nI (30 * p) := by
  rw [show (30 : Int32) = nI 30 from rfl, pk_mul]
theorem bt_p3 (p : Nat) : nI p + 3 = nI (p + 3) := nI_add p 3
theorem bt_p4 (p : Nat) : nI p + 4 = nI (p + 4) := nI_add p 4
theorem bt_p5 (p : Nat) : nI p + 5 = nI (p + 5) := nI_add p 5
theorem bt_p6 (p : Nat) : nI p + 6 = nI (p + 6) := nI_add p 6
theorem bt_p7 (p : Nat) : nI p + 7 = nI (p + 7) := nI_add p 7
theorem bt_s1 {p : Nat} (h : 0 < p) : nI p - 1 = nI (p - 1) := pk_sub (b := 1) h
theorem bt_m1 {p : Nat} (h : 0 < p) : nI p + (-1) = nI (p - 1) := by
  obtain ⟨q, rfl⟩ : ∃ q, p = q + 1 := ⟨p - 1, by omega⟩
  exact pk_m1 q
theorem bt_out {N : Nat} {x : Int32} (hN : N < 2 ^ 31) (h : ¬ ∃ q, q < N ∧ x = nI q) : x < 0 ∨ (¬ x < 0 ∧ 0 ≤ x ∧ nI N ≤ x ∧ ¬ x < nI N) := by
  rcases pk_ix x hN with a | a | ⟨j, hj, e⟩
  · exact Or.inl a
  · by_cases z : x < 0
    · exact Or.inl z
    · exact Or.inr ⟨z, Int32.not_lt.mp z, a, Int32.not_lt.mpr a⟩
  · exact absurd ⟨j, hj, e⟩ h
theorem bt_neg0 {x : Int32} (h : x < 0) : ¬ 0 ≤ x := Int32.not_le.mpr h
def bt_rw (x : Int32) (m : Nat) : Prop := m < 2 ^ 31 ∧ ((x < 0 ∧ ¬ 0 ≤ x ∧ -1 - x = nI m) ∨ (¬ x < 0 ∧ 0 ≤ x ∧ x = nI m))
theorem bt_rw_e (x : Int32) : ∃ m, bt_rw x m := by
  by_cases h : x < 0
  · obtain ⟨m, hm, e⟩ := bt_row x h
    exact ⟨m, hm, Or.inl ⟨h, bt_neg0 h, e⟩⟩
  · obtain ⟨m, hm, e⟩ := nI_of h
    exact ⟨m, hm, Or.inr ⟨h, Int32.not_lt.mp h, e⟩⟩
def bt_dg (m D : Nat) : Prop := D ≤ 9 ∧ ∀ j, (j < D ↔ 0 < m / 11 ^ j)
def bt_of (b : Nat) : Option Nat → Int32
  | none => -1
  | some k => nI (b + k)
def bt_cf (cc cv : Nat → Int32) (a : Nat) (x : Int32) : Option Nat := bt_f (fun k => ¬ cc (6 * a + k) = 0 ∧ cv (6 * a + k) = x) 0 6
def bt_uf (cc : Nat → Int32) (a : Nat) : Option Nat := bt_f (fun k => cc (6 * a + k) = 0) 0 6
def bt_vn (cc : Nat → Int32) (a : Nat) : Option Nat → Int32
  | none => 1
  | some k => cc (6 * a + k)
def bt_vg (mn : Nat → Int32) (a : Nat) (x : Int32) : Option Nat → Nat → Int32
  | none, _ => x
  | some k, m => mn (5 * (6 * a + k) + m)
/-- the first child of that name of the c nodes g -/
def bt_ch (st pa nm : Nat → Int32) (d x : Int32) : Option Nat := bt_f (fun n => st n = 1 ∧ pa n = d ∧ nm n = x) 3 45
def bt_lk (F : Int32 → Option Nat) (g : Nat → Int32) : Nat → Nat → Option Nat
  | _, 0 => none
  | k, d + 1 => match F (g k) with
    | some n => some n
    | none => bt_lk F g (k + 1) d
section
variable {st dr nm pa sz th dl sp tb dn cc cv mn mc oc on om op sY tY dy dm vc ms me cr hd hN ps la : Nat → Int32} {s s' t t' : Nat → Nat} {a b : Nat} {x : Int32}
/-- what a cover of both sides shows -/
theorem bt_view (hC : ∀ k, k < 6 → bt_C st cc cv mn mc vc ms me cr (6 * a + k) (6 * b + k)) (hx : bt_N st x) :
    ∃ c, 1 ≤ c ∧ c ≤ 5 ∧ bt_vn cc a (bt_cf cc cv a x) = nI c ∧ (∀ m, m < c → bt_N st (bt_vg mn a x (bt_cf cc cv a x) m)) ∧
      (bt_cf cc cv a x = none → c = 1) ∧
      (∀ k, bt_cf cc cv a x = some k → k < 6 ∧ cc (6 * a + k) = nI c ∧ ms (6 * b + k) = nI c ∧ cv (6 * a + k) = x ∧ vc (6 * b + k) = x ∧
        ∀ m, m < c → mn (5 * (6 * a + k) + m) = me (5 * (6 * b + k) + m) ∧ mc (5 * (6 * a + k) + m) = cr (5 * (6 * b + k) + m) ∧ bt_N st (mn (5 * (6 * a + k) + m))) := by
  cases e : bt_cf cc cv a x with
  | none => exact ⟨1, Nat.le_refl _, by omega, rfl, fun m hm => hx, fun _ => rfl, fun k hk => by cases hk⟩
  | some k =>
    obtain ⟨_, k6, ⟨z, y⟩, _⟩ := bt_f_s 6 0 e
    have k6' : k < 6 := by omega
    rcases hC k k6' with ⟨u, _⟩ | ⟨c, c1, c5, u1, u2, u3, u4, u5⟩
    · exact absurd u z
    · refine ⟨c, c1, c5, u1, fun m hm => (u5 m hm).2.2, fun h => (by cases h), fun k2 h => ?_⟩
      cases h
      exact ⟨k6', u1, u2, y, u3.symm.trans y, u5⟩
theorem bt_Nx {x : Int32} (h : bt_N st x) : x ≠ -1 := by
  obtain ⟨n, hN, e, _⟩ := h
  rw [e]; exact bt_neg (by omega)
theorem bt_Cc (hC : ∀ k, k < 6 → bt_C st cc cv mn mc vc ms me cr (6 * a + k) (6 * b + k)) : ∀ k, k < 6 → ∃ c, c ≤ 5 ∧ cc (6 * a + k) = nI c := by
  intro k hk
  rcases hC k hk with ⟨u, _⟩ | ⟨c, c1, c5, u1, _⟩
  · exact ⟨0, by omega, u⟩
  · exact ⟨c, c5, u1⟩
end
theorem bt_sw_u {st a b : Nat → Int32} {H : Nat → Prop} (ha : bt_sw st H a) (hb : bt_sw st H b) : a = b := by
  funext n
  by_cases e : 3 ≤ n ∧ n < 48 ∧ st n = 2 ∧ ¬ H n
  · rw [(ha n).1 e, (hb n).1 e]
  · rw [(ha n).2 e, (hb n).2 e]
theorem bt_lk_in {F : Int32 → Option Nat} {g : Nat → Int32} {Q : Nat → Prop} (hF : ∀ y n, F y = some n → Q n) : ∀ (d k : Nat) {n : Nat}, bt_lk F g k d = some n → Q n
  | 0, k, n, h => by
    have h' : (none : Option Nat) = some n := h
    cases h'
  | d + 1, k, n, h => by
    simp only [bt_lk] at h
    cases e : F (g k) with
    | none => rw [e] at h; exact bt_lk_in hF d (k + 1) h
    | some m =>
      rw [e] at h
      have h' : m = n := Option.some.inj h
      rw [← h']; exact hF _ _ e
theorem bt_ct_c {P Q : Nat → Prop} [DecidablePred P] [DecidablePred Q] : ∀ (d i : Nat) (c : Int32), (∀ j, i ≤ j → j < i + d → (P j ↔ Q j)) → bt_ct P i d c = bt_ct Q i d c
  | 0, _, _, _ => rfl
  | d + 1, i, c, h => by
    simp only [bt_ct]
    have e : (if P i then c + 1 else c) = (if Q i then c + 1 else c) := by
      by_cases z : P i
      · rw [if_pos z, if_pos ((h i (Nat.le_refl _) (by omega)).mp z)]
      · rw [if_neg z, if_neg (fun y => z ((h i (Nat.le_refl _) (by omega)).mpr y))]
    rw [e]
    exact bt_ct_c d (i + 1) _ (fun j a b => h j (by omega) (by omega))
theorem bt_ct_a {P : Nat → Prop} [DecidablePred P] : ∀ (d i : Nat) (c : Int32), bt_ct P i d c = c + bt_ct P i d 0
  | 0, _, c => (Int32.add_zero c).symm
  | d + 1, i, c => by
    simp only [bt_ct]
    rw [bt_ct_a d (i + 1) (if P i then c + 1 else c), bt_ct_a d (i + 1) (if P i then (0 : Int32) + 1 else 0)]
    by_cases z : P i
    · rw [if_pos z, if_pos z, ← Int32.add_assoc, ← Int32.add_assoc, Int32.add_zero]
    · rw [if_neg z, if_neg z, ← Int32.add_assoc, Int32.add_zero]
theorem bt_ct_d {P Q : Nat → Prop} [DecidablePred P] [DecidablePred Q] {p : Nat} (hP : P p) (hQ : ¬ Q p) (he : ∀ j, j ≠ p → (P j ↔ Q j)) : ∀ (d i : Nat) (c : Int32), i ≤ p → p < i + d → bt_ct P i d c = bt_ct Q i d c + 1
  | 0, i, c, h1, h2 => by omega
  | d + 1, i, c, h1, h2 => by
    simp only [bt_ct]
    by_cases z : i = p
    · subst z
      rw [if_pos hP, if_neg hQ, bt_ct_c d (i + 1) (c + 1) (fun j a b => he j (by omega)), bt_ct_a d (i + 1) (c + 1), bt_ct_a d (i + 1) c]
      grind
    · have e : (if P i then c + 1 else c) = (if Q i then c + 1 else c) := by
        by_cases y : P i
        · rw [if_pos y, if_pos ((he i z).mp y)]
        · rw [if_neg y, if_neg (fun w => y ((he i z).mpr w))]
      rw [e]
      exact bt_ct_d hP hQ he d (i + 1) _ (by omega) (by omega)
/-- f2 is f with len cells copied from src to dst -/
def bt_cp (f f2 : Nat → Int32) (src dst len : Nat) : Prop := (∀ i, i < len → f2 (dst + i) = f (src + i)) ∧ (∀ x, (x < dst ∨ dst + len ≤ x) → f2 x = f x)
theorem bt_cp_0 {f : Nat → Int32} {src dst : Nat} : bt_cp f f src dst 0 := ⟨fun i h => by omega, fun x _ => rfl⟩
theorem bt_cp_s {f g : Nat → Int32} {src dst i len : Nat} {y : Int32} (h : bt_cp f g src dst i) (hi : i < len) (hd : src + len ≤ dst ∨ dst + len ≤ src) (hy : y = g (src + i)) : bt_cp f (upd g (dst + i) y) src dst (i + 1) := by
  have e : g (src + i) = f (src + i) := h.2 _ (by omega)
  refine ⟨fun j hj => ?_, fun x hx => ?_⟩
  · by_cases z : j = i
    · rw [z, pk_us, hy, e]
    · rw [pk_un (by omega)]; exact h.1 j (by omega)
  · rw [pk_un (by omega)]; exact h.2 x (by omega)
theorem bt_cp_B {f g : Nat → Int32} {src dst len : Nat} (h : bt_cp f g src dst len) (hf : ∀ i, bt_B (f i)) : ∀ i, bt_B (g i) := by
  intro i
  by_cases z : i < dst ∨ dst + len ≤ i
  · rw [h.2 i z]; exact hf i
  · obtain ⟨j, rfl⟩ : ∃ j, i = dst + j := ⟨i - dst, by omega⟩
    rw [h.1 j (by omega)]; exact hf _
end
section
section
variable {ls tl ec kc : Int32} {st dr nm pa ve sz it sm hl th sp tb dl dn cc cv mn mc oc on om op tr el cm : Nat → Int32} {post : Int32 → Prop}
theorem xx_isP1 {q : Nat} (hq : q < 4) (ht : th q ≠ 0) (h : post 1) : wpX_isProcess post (ls, tl, ec, kc, st, dr, nm, pa, ve, sz, it, sm, hl, th, sp, tb, dl, dn, cc, cv, mn, mc, oc, on, om, op, tr, el, cm) (nI q) := by
  have ix := bt_ix4 hq
  refine br_f ix.1 (br_f ix.2.2.2.1 ⟨ix.2.2.2.2.1, br_f ?_ h⟩)
  rw [ix.2.2.2.2.2.1]; exact ht
theorem xx_isP0 {p : Int32} (hp : ¬ ∃ q, q < 4 ∧ p = nI q ∧ th q ≠ 0) (h : post 0) : wpX_isProcess post (ls, tl, ec, kc, st, dr, nm, pa, ve, sz, it, sm, hl, th, sp, tb, dl, dn, cc, cv, mn, mc, oc, on, om, op, tr, el, cm) p := by
  by_cases a : p < 0
  · exact br_t a h
  refine br_f a ?_
  by_cases b : (4 : Int32) ≤ p
  · exact br_t b h
  refine br_f b ?_
  rcases pk_ix p (n := 4) (by decide) with c | c | ⟨j, hj, rfl⟩
  · exact absurd c a
  · exact absurd c b
  · have ix := bt_ix4 hj
    have z : th j = 0 := Classical.byContradiction fun z => hp ⟨j, hj, rfl, z⟩
    refine ⟨ix.2.2.2.2.1, br_t ?_ h⟩
    rw [ix.2.2.2.2.2.1]; exact z
theorem xx_row {x : Int32} {m : Nat} (hm : bt_rw x m) (h : post (nI m)) : wpX_rowOf post x := by
  rcases hm with ⟨_, ⟨a, b, e⟩ | ⟨a, b, e⟩⟩
  · refine br_f b ?_
    rw [e]; exact h
  · refine br_t b ?_
    rw [e]; exact h
theorem bt_11 : ¬ (11 : Int32) = 0 := by decide
theorem bt_r11 {m : Nat} (h : m < 2 ^ 31) : nI m - nI m / 11 * 11 = nI (m % 11) := pk_rem (d := 11) h (by decide) (by decide)
theorem bt_d11 {m : Nat} (h : m < 2 ^ 31) : nI m / 11 = nI (m / 11) := pk_div (d := 11) h (by decide) (by decide)
theorem bt_e0 {m : Nat} (h : m < 2 ^ 31) : nI m = 0 ↔ m = 0 := nI_eq (b := 0) h (by decide)
theorem bt_e10 {m : Nat} (h : m < 2 ^ 31) : nI m = 10 ↔ m = 10 := nI_eq (b := 10) h (by decide)
theorem bt_le0 {m : Nat} (h : m < 2 ^ 31) : nI m ≤ 0 ↔ m = 0 := by
  have := nI_leI (a := m) (b := 0) h (by decide)
  exact this.trans (by omega)
theorem xx_ends {x : Int32} {m : Nat} (hm : bt_rw x m) (h1 : m % 11 ≠ 0 ∧ m % 11 ≠ 10 → post 1) (h0 : ¬ (m % 11 ≠ 0 ∧ m % 11 ≠ 10) → post 0) : wpX_endsInName post x := by
  unfold wpX_endsInName
  refine xx_row hm ⟨bt_11, nm_r (bt_r11 hm.1) (ek_if (bt_e0 (by omega)) (fun z => h0 (by omega)) (fun z => ek_if (bt_e10 (by omega)) (fun y => h0 (by omega)) (fun y => h1 ⟨z, y⟩)))⟩
theorem xx_wol {x : Int32} {m : Nat} (hm : bt_rw x m) (h : ∀ y, bt_rw y (m / 11) → (y < 0 ↔ x < 0) → post y) : wpX_withoutLast post x := by
  unfold wpX_withoutLast
  refine xx_row hm ⟨bt_11, nm_r (bt_d11 hm.1) ?_⟩
  have hq : m / 11 < 2 ^ 31 := Nat.lt_of_le_of_lt (Nat.div_le_self _ _) hm.1
  rcases hm with ⟨_, ⟨a, b, e⟩ | ⟨a, b, e⟩⟩
  · exact br_f b (h _ ⟨hq, Or.inl ⟨bt_neg1 hq, bt_neg0 (bt_neg1 hq), bt_neg2 _⟩⟩ ⟨fun _ => a, fun _ => bt_neg1 hq⟩)
  · exact br_t b (h _ ⟨hq, Or.inr ⟨nI_pos hq, nI_pos' hq, rfl⟩⟩ ⟨fun z => absurd z (nI_pos hq), fun z => absurd z a⟩)
theorem bt_dlt {m : Nat} (h : m < 2 ^ 31) (j : Nat) : m / 11 ^ j < 2 ^ 31 := Nat.lt_of_le_of_lt (Nat.div_le_self _ _) h
theorem xx_path_l {m D : Nat} (hm : m < 2 ^ 31) (hD : bt_dg m D) (h1 : bt_g m D → post 1) (h0 : ¬ bt_g m D → post 0) :
    ∀ (e i n : Nat), i + e = 6 → e < n → i ≤ D → (∀ j, j < i → m / 11 ^ j % 11 ≠ 0) → wX_isPath_7 post n (nI (m / 11 ^ i)) (nI i) := by
  have ex : ∀ i, i ≤ 6 → (i = 6 ∨ m / 11 ^ i = 0) → i ≤ D → (∀ j, j < i → m / 11 ^ j % 11 ≠ 0) → wX_isPath_37 post (nI (m / 11 ^ i)) := by
    intro i h6 hi hiD hj
    refine ek_if (bt_e0 (bt_dlt hm i)) (fun z => h1 ?_) (fun z => h0 ?_)
    · have : ¬ i < D := fun y => by have := (hD.2 i).mp y; omega
      have : i = D := by omega
      subst this
      exact ⟨h6, hj⟩
    · intro g
      have : i < D := (hD.2 i).mpr (Nat.pos_of_ne_zero z)
      have := g.1
      omega
  intro e
  induction e with
  | zero =>
    intro i n hi hn hiD hj
    obtain ⟨n, rfl⟩ : ∃ n', n = n' + 1 := ⟨n - 1, by omega⟩
    have : i = 6 := by omega
    subst this
    exact br_t (by decide) (ex 6 (Nat.le_refl _) (Or.inl rfl) hiD hj)
  | succ e ih =>
    intro i n hi hn hiD hj
    obtain ⟨n, rfl⟩ : ∃ n', n = n' + 1 := ⟨n - 1, by omega⟩
    refine br_f (nI_ge (b := 6) (by omega) (by decide)) (ek_if (bt_le0 (bt_dlt hm i)) (fun z => ex i (by omega) (Or.inr z) hiD hj) (fun z => ⟨bt_11, ?_⟩))
    have hiD2 : i < D := (hD.2 i).mpr (Nat.pos_of_ne_zero z)
    rw [bt_r11 (bt_dlt hm i), bt_d11 (bt_dlt hm i), bt_dv]
    refine ek_if (bt_e0 (by omega)) (fun y => h0 (fun g => g.2 i hiD2 y)) (fun y => ⟨bt_11, nm_e (nm_r (nI_1 i) ?_)⟩)
    refine ih (i + 1) n (by omega) (by omega) (by omega) (fun j h => ?_)
    by_cases w : j = i
    · rw [w]; exact y
    · exact hj j (by omega)
theorem xx_path {x : Int32} {m D : Nat} (hm : bt_rw x m) (hD : bt_dg m D) (h1 : bt_g m D → post 1) (h0 : ¬ bt_g m D → post 0) : wpX_isPath post x := by
  unfold wpX_isPath
  refine xx_row hm ⟨7, ?_⟩
  have := xx_path_l (post := post) hm.1 hD h1 h0 6 0 7 rfl (by omega) (by omega) (fun j h => by omega)
  rw [Nat.pow_zero, Nat.div_one, nI_0] at this
  exact this
theorem xx_coverOf_l {a : Nat} {x : Int32} (ha : a < 4) (hc : ∀ k, k < 6 → ∃ c, c ≤ 5 ∧ cc (6 * a + k) = nI c) :
    ∀ (e i n : Nat), i + e = 6 → e < n → post (bt_of (6 * a) (bt_f (fun k => ¬ cc (6 * a + k) = 0 ∧ cv (6 * a + k) = x) i e)) → wX_coverOf_5 post (nI a) x ls tl ec kc st dr nm pa ve sz it sm hl th sp tb dl dn cc cv mn mc oc on om op tr el cm n (nI (6 * a + i)) := by
  have lim : (nI a + 1) * 6 = nI (6 * a + 6) := by rw [nI_1, bt_m6]; exact congrArg nI (by omega)
  intro e
  induction e with
  | zero =>
    intro i n hi hn h
    obtain ⟨n, rfl⟩ : ∃ n', n = n' + 1 := ⟨n - 1, by omega⟩
    have : i = 6 := by omega
    subst this
    refine br_t ?_ h
    rw [lim]; exact Int32.le_refl _
  | succ e ih =>
    intro i n hi hn h
    obtain ⟨n, rfl⟩ : ∃ n', n = n' + 1 := ⟨n - 1, by omega⟩
    have ix := bt_ix24 (q := 6 * a + i) (by omega)
    obtain ⟨c, c5, ec⟩ := hc i (by omega)
    simp only [bt_f] at h
    refine br_f ?_ ⟨ix.2.2.2.2.1, ?_⟩
    · rw [lim]; exact nI_ge (by omega) (by omega)
    rw [ix.2.2.2.2.2.1, ec]
    refine ek_if (bt_le0 (by omega)) (fun z => nm_r (nI_1 _) (ih (i + 1) n (by omega) (by omega) ?_)) (fun z => ⟨ix.2.2.2.2.1, ?_⟩)
    · rw [if_neg (fun y => y.1 (by rw [ec, z]; rfl))] at h; exact h
    · have nz : ¬ cc (6 * a + i) = 0 := by rw [ec]; exact fun y => z ((bt_e0 (by omega)).mp y)
      refine br_c (fun y => ?_) (fun y => nm_r (nI_1 _) (ih (i + 1) n (by omega) (by omega) ?_))
      · rw [if_pos ⟨nz, y⟩] at h; exact h
      · rw [if_neg (fun w => y w.2)] at h; exact h
theorem xx_coverOf {a : Nat} {x : Int32} (ha : a < 4) (hc : ∀ k, k < 6 → ∃ c, c ≤ 5 ∧ cc (6 * a + k) = nI c)
    (h : post (bt_of (6 * a) (bt_cf cc cv a x))) : wpX_coverOf post (ls, tl, ec, kc, st, dr, nm, pa, ve, sz, it, sm, hl, th, sp, tb, dl, dn, cc, cv, mn, mc, oc, on, om, op, tr, el, cm) (nI a) x :=
  nm_r (bt_m6 a) ⟨7, xx_coverOf_l ha hc 6 0 7 rfl (by omega) h⟩
theorem xx_unused_l {a : Nat} (ha : a < 4) :
    ∀ (e i n : Nat), i + e = 6 → e < n → post (bt_of (6 * a) (bt_f (fun k => cc (6 * a + k) = 0) i e)) → wX_unusedCover_5 post (nI a) ls tl ec kc st dr nm pa ve sz it sm hl th sp tb dl dn cc cv mn mc oc on om op tr el cm n (nI (6 * a + i)) := by
  have lim : (nI a + 1) * 6 = nI (6 * a + 6) := by rw [nI_1, bt_m6]; exact congrArg nI (by omega)
  intro e
  induction e with
  | zero =>
    intro i n hi hn h
    obtain ⟨n, rfl⟩ : ∃ n', n = n' + 1 := ⟨n - 1, by omega⟩
    have : i = 6 := by omega
    subst this
    refine br_t ?_ h
    rw [lim]; exact Int32.le_refl _
  | succ e ih =>
    intro i n hi hn h
    obtain ⟨n, rfl⟩ : ∃ n', n = n' + 1 := ⟨n - 1, by omega⟩
    have ix := bt_ix24 (q := 6 * a + i) (by omega)
    simp only [bt_f] at h
    refine br_f ?_ ⟨ix.2.2.2.2.1, ?_⟩
    · rw [lim]; exact nI_ge (by omega) (by omega)
    rw [ix.2.2.2.2.2.1]
    refine br_c (fun z => ?_) (fun z => nm_r (nI_1 _) (ih (i + 1) n (by omega) (by omega) ?_))
    · rw [if_pos z] at h; exact h
    · rw [if_neg z] at h; exact h
theorem xx_unused {a : Nat} (ha : a < 4) (h : post (bt_of (6 * a) (bt_uf cc a))) : wpX_unusedCover post (ls, tl, ec, kc, st, dr, nm, pa, ve, sz, it, sm, hl, th, sp, tb, dl, dn, cc, cv, mn, mc, oc, on, om, op, tr, el, cm) (nI a) :=
  nm_r (bt_m6 a) ⟨7, xx_unused_l ha 6 0 7 rfl (by omega) h⟩
theorem xx_seenCount {a : Nat} {o : Option Nat} (ha : a < 4) (ho : ∀ k, o = some k → k < 6) (h : post (bt_vn cc a o)) : wpX_seenCount post (ls, tl, ec, kc, st, dr, nm, pa, ve, sz, it, sm, hl, th, sp, tb, dl, dn, cc, cv, mn, mc, oc, on, om, op, tr, el, cm) (bt_of (6 * a) o) := by
  cases o with
  | none => exact br_t rfl h
  | some k =>
    have := ho k rfl
    have ix := bt_ix24 (q := 6 * a + k) (by omega)
    refine br_f ix.2.2.2.2.2.2 ⟨ix.2.2.2.2.1, ?_⟩
    show post (cc (nI (6 * a + k)).toNatClampNeg)
    rw [ix.2.2.2.2.2.1]; exact h
theorem xx_seenNode {a m : Nat} {x : Int32} {o : Option Nat} (ha : a < 4) (hm : m < 5) (ho : ∀ k, o = some k → k < 6) (h : post (bt_vg mn a x o m)) : wpX_seenNode post (ls, tl, ec, kc, st, dr, nm, pa, ve, sz, it, sm, hl, th, sp, tb, dl, dn, cc, cv, mn, mc, oc, on, om, op, tr, el, cm) (bt_of (6 * a) o) x (nI m) := by
  cases o with
  | none => exact br_t rfl h
  | some k =>
    have := ho k rfl
    have ix := bt_ix24 (q := 6 * a + k) (by omega)
    have iy := bt_ix120 (q := 5 * (6 * a + k) + m) (by omega)
    have e : nI (6 * a + k) * 5 + nI m = nI (5 * (6 * a + k) + m) := by rw [bt_m5, nI_add]
    refine br_f ix.2.2.2.2.2.2 ?_
    show vp_in (nI (6 * a + k) * 5 + nI m) 120 ∧ post (mn (nI (6 * a + k) * 5 + nI m).toNatClampNeg)
    rw [e, iy.2.2.2.2.2.1]
    exact ⟨iy.2.2.2.2.1, h⟩
theorem xx_isChild {n : Nat} {d : Int32} (hn : n < 48) (h1 : st n = 1 ∧ pa n = d → post 1) (h0 : ¬ (st n = 1 ∧ pa n = d) → post 0) : wpX_isChild post (ls, tl, ec, kc, st, dr, nm, pa, ve, sz, it, sm, hl, th, sp, tb, dl, dn, cc, cv, mn, mc, oc, on, om, op, tr, el, cm) (nI n) d := by
  have ix := bt_ix48 hn
  refine ⟨ix.2.2.2.2.1, ?_⟩
  rw [ix.2.2.2.2.2.1]
  refine br_c (fun z => ⟨ix.2.2.2.2.1, br_c (fun y => h1 ⟨z, y⟩) (fun y => h0 (fun w => y w.2))⟩) (fun z => h0 (fun w => z w.1))
theorem xx_childNamed_l {d x : Int32} : ∀ (e i n : Nat), i + e = 48 → e < n → post (bt_o (bt_f (fun n => st n = 1 ∧ pa n = d ∧ nm n = x) i e)) → wX_childNamed_2 post d x ls tl ec kc st dr nm pa ve sz it sm hl th sp tb dl dn cc cv mn mc oc on om op tr el cm n (nI i) := by
  intro e
  induction e with
  | zero =>
    intro i n hi hn h
    obtain ⟨n, rfl⟩ : ∃ n', n = n' + 1 := ⟨n - 1, by omega⟩
    have : i = 48 := by omega
    subst this
    exact br_t (by decide) h
  | succ e ih =>
    intro i n hi hn h
    obtain ⟨n, rfl⟩ : ∃ n', n = n' + 1 := ⟨n - 1, by omega⟩
    have ix := bt_ix48 (q := i) (by omega)
    simp only [bt_f] at h
    refine br_f ix.2.2.2.1 ⟨ix.2.2.2.2.1, ?_⟩
    rw [ix.2.2.2.2.2.1]
    refine br_c (fun z => xx_isChild (by omega) (fun y => br_f (by decide) ?_) (fun y => br_t rfl (nm_r (nI_1 _) (ih (i + 1) n (by omega) (by omega) ?_)))) (fun z => nm_r (nI_1 _) (ih (i + 1) n (by omega) (by omega) ?_))
    · rw [if_pos ⟨y.1, y.2, z⟩] at h; exact h
    · rw [if_neg (fun w => y ⟨w.1, w.2.1⟩)] at h; exact h
    · rw [if_neg (fun w => z w.2.2)] at h; exact h
theorem xx_childNamed {d x : Int32} (h : post (bt_o (bt_ch st pa nm d x))) : wpX_childNamed post (ls, tl, ec, kc, st, dr, nm, pa, ve, sz, it, sm, hl, th, sp, tb, dl, dn, cc, cv, mn, mc, oc, on, om, op, tr, el, cm) d x :=
  ⟨46, xx_childNamed_l 45 3 46 rfl (by omega) h⟩
theorem xx_lookUp_l {a c : Nat} {x y : Int32} {o : Option Nat} (ha : a < 4) (hc : c ≤ 5) (ho : ∀ k, o = some k → k < 6) :
    ∀ (e i n : Nat), i + e = c → e < n → post (bt_o (bt_lk (fun d => bt_ch st pa nm d y) (bt_vg mn a x o) i e)) → wX_lookUp_10 post (bt_of (6 * a) o) x y (nI c) ls tl ec kc st dr nm pa ve sz it sm hl th sp tb dl dn cc cv mn mc oc on om op tr el cm n (nI i) := by
  intro e
  induction e with
  | zero =>
    intro i n hi hn h
    obtain ⟨n, rfl⟩ : ∃ n', n = n' + 1 := ⟨n - 1, by omega⟩
    exact br_t (nI_le (by omega) (by omega)) h
  | succ e ih =>
    intro i n hi hn h
    obtain ⟨n, rfl⟩ : ∃ n', n = n' + 1 := ⟨n - 1, by omega⟩
    refine br_f (nI_ge (by omega) (by omega)) (xx_seenNode ha (by omega) ho (xx_childNamed ?_))
    simp only [bt_lk] at h
    cases q : bt_ch st pa nm (bt_vg mn a x o i) y with
    | none =>
      rw [q] at h
      exact br_t rfl (nm_r (nI_1 _) (ih (i + 1) n (by omega) (by omega) h))
    | some m =>
      rw [q] at h
      have m48 := bt_f_s 45 3 q
      exact br_f (bt_neg (by omega)) h
theorem xx_lookUp {a c : Nat} {x y : Int32} {o : Option Nat} (ha : a < 4) (hc : c ≤ 5) (hv : bt_vn cc a o = nI c) (ho : ∀ k, o = some k → k < 6)
    (h : post (bt_o (bt_lk (fun d => bt_ch st pa nm d y) (bt_vg mn a x o) 0 c))) : wpX_lookUp post (ls, tl, ec, kc, st, dr, nm, pa, ve, sz, it, sm, hl, th, sp, tb, dl, dn, cc, cv, mn, mc, oc, on, om, op, tr, el, cm) (bt_of (6 * a) o) x y := by
  unfold wpX_lookUp
  refine xx_seenCount ha ho ⟨c + 1, ?_⟩
  rw [hv]
  exact xx_lookUp_l ha hc ho c 0 (c + 1) (by omega) (by omega) h
theorem xx_childCount_l {d : Int32} : ∀ (e i n : Nat) (c : Int32), i + e = 48 → e < n → post (bt_ct (fun n => st n = 1 ∧ pa n = d) i e c) → wX_childCount_4 post d ls tl ec kc st dr nm pa ve sz it sm hl th sp tb dl dn cc cv mn mc oc on om op tr el cm n c (nI i) := by
  intro e
  induction e with
  | zero =>
    intro i n c hi hn h
    obtain ⟨n, rfl⟩ : ∃ n', n = n' + 1 := ⟨n - 1, by omega⟩
    have : i = 48 := by omega
    subst this
    exact br_t (by decide) h
  | succ e ih =>
    intro i n c hi hn h
    obtain ⟨n, rfl⟩ : ∃ n', n = n' + 1 := ⟨n - 1, by omega⟩
    have ix := bt_ix48 (q := i) (by omega)
    simp only [bt_ct] at h
    refine br_f ix.2.2.2.1 (xx_isChild (by omega) (fun y => br_f (by decide) (nm_e (nm_r (nI_1 _) (ih (i + 1) n _ (by omega) (by omega) ?_)))) (fun y => br_t rfl (nm_r (nI_1 _) (ih (i + 1) n _ (by omega) (by omega) ?_))))
    · rw [if_pos y] at h; exact h
    · rw [if_neg y] at h; exact h
theorem xx_childCount {d : Int32} (h : post (bt_ct (fun n => st n = 1 ∧ pa n = d) 3 45 0)) : wpX_childCount post (ls, tl, ec, kc, st, dr, nm, pa, ve, sz, it, sm, hl, th, sp, tb, dl, dn, cc, cv, mn, mc, oc, on, om, op, tr, el, cm) d :=
  ⟨46, xx_childCount_l 45 3 46 0 rfl (by omega) h⟩
theorem xx_freeNode_l : ∀ (e i n : Nat), i + e = 48 → e < n → post (bt_o (bt_f (fun n => st n = 0) i e)) → wX_freeNode_2 post ls tl ec kc st dr nm pa ve sz it sm hl th sp tb dl dn cc cv mn mc oc on om op tr el cm n (nI i) := by
  intro e
  induction e with
  | zero =>
    intro i n hi hn h
    obtain ⟨n, rfl⟩ : ∃ n', n = n' + 1 := ⟨n - 1, by omega⟩
    have : i = 48 := by omega
    subst this
    exact br_t (by decide) h
  | succ e ih =>
    intro i n hi hn h
    obtain ⟨n, rfl⟩ : ∃ n', n = n' + 1 := ⟨n - 1, by omega⟩
    have ix := bt_ix48 (q := i) (by omega)
    simp only [bt_f] at h
    refine br_f ix.2.2.2.1 ⟨ix.2.2.2.2.1, ?_⟩
    rw [ix.2.2.2.2.2.1]
    refine br_c (fun z => ?_) (fun z => nm_r (nI_1 _) (ih (i + 1) n (by omega) (by omega) ?_))
    · rw [if_pos z] at h; exact h
    · rw [if_neg z] at h; exact h
theorem xx_freeNode (h : post (bt_o (bt_f (fun n => st n = 0) 3 45))) : wpX_freeNode post (ls, tl, ec, kc, st, dr, nm, pa, ve, sz, it, sm, hl, th, sp, tb, dl, dn, cc, cv, mn, mc, oc, on, om, op, tr, el, cm) :=
  ⟨46, xx_freeNode_l 45 3 46 rfl (by omega) h⟩
theorem xx_creating_l {i c : Nat} (hi : i < 24) (hc : c ≤ 5) (ec0 : cc i = nI c) : ∀ (e j n : Nat), j + e = c → e < n →
    post (match bt_f (fun m => ¬ mc (5 * i + m) = 0) j e with | none => -1 | some m => mn (5 * i + m)) → wX_creatingMember_2 post (nI i) ls tl ec kc st dr nm pa ve sz it sm hl th sp tb dl dn cc cv mn mc oc on om op tr el cm n (nI j) := by
  have ix := bt_ix24 hi
  intro e
  induction e with
  | zero =>
    intro j n hj hn h
    obtain ⟨n, rfl⟩ : ∃ n', n = n' + 1 := ⟨n - 1, by omega⟩
    refine ⟨ix.2.2.2.2.1, ?_⟩
    rw [ix.2.2.2.2.2.1, ec0]
    exact br_t (nI_le (by omega) (by omega)) h
  | succ e ih =>
    intro j n hj hn h
    obtain ⟨n, rfl⟩ : ∃ n', n = n' + 1 := ⟨n - 1, by omega⟩
    have iy := bt_ix120 (q := 5 * i + j) (by omega)
    have e5 : nI i * 5 + nI j = nI (5 * i + j) := by rw [bt_m5, nI_add]
    simp only [bt_f] at h
    refine ⟨ix.2.2.2.2.1, ?_⟩
    rw [ix.2.2.2.2.2.1, ec0, e5, iy.2.2.2.2.2.1]
    refine br_f (nI_ge (by omega) (by omega)) ⟨iy.2.2.2.2.1, br_c (fun z => nm_r (nI_1 _) (ih (j + 1) n (by omega) (by omega) ?_)) (fun z => ⟨iy.2.2.2.2.1, ?_⟩)⟩
    · rw [if_neg (fun w => w z)] at h; exact h
    · rw [if_pos z] at h; exact h
theorem xx_creating {i c : Nat} (hi : i < 24) (hc : c ≤ 5) (ec0 : cc i = nI c)
    (h : post (match bt_f (fun m => ¬ mc (5 * i + m) = 0) 0 c with | none => -1 | some m => mn (5 * i + m))) : wpX_creatingMember post (ls, tl, ec, kc, st, dr, nm, pa, ve, sz, it, sm, hl, th, sp, tb, dl, dn, cc, cv, mn, mc, oc, on, om, op, tr, el, cm) (nI i) :=
  ⟨c + 1, xx_creating_l hi hc ec0 c 0 (c + 1) (by omega) (by omega) h⟩
theorem xx_mix_l {i c : Nat} {x : Int32} (hi : i < 24) (hc : c ≤ 5) (ec0 : cc i = nI c) : ∀ (e j n : Nat), j + e = c → e < n →
    post (bt_o (bt_f (fun m => mn (5 * i + m) = x) j e)) → wX_memberIndex_2 post (nI i) x ls tl ec kc st dr nm pa ve sz it sm hl th sp tb dl dn cc cv mn mc oc on om op tr el cm n (nI j) := by
  have ix := bt_ix24 hi
  intro e
  induction e with
  | zero =>
    intro j n hj hn h
    obtain ⟨n, rfl⟩ : ∃ n', n = n' + 1 := ⟨n - 1, by omega⟩
    refine ⟨ix.2.2.2.2.1, ?_⟩
    rw [ix.2.2.2.2.2.1, ec0]
    exact br_t (nI_le (by omega) (by omega)) h
  | succ e ih =>
    intro j n hj hn h
    obtain ⟨n, rfl⟩ : ∃ n', n = n' + 1 := ⟨n - 1, by omega⟩
    have iy := bt_ix120 (q := 5 * i + j) (by omega)
    have e5 : nI i * 5 + nI j = nI (5 * i + j) := by rw [bt_m5, nI_add]
    simp only [bt_f] at h
    refine ⟨ix.2.2.2.2.1, ?_⟩
    rw [ix.2.2.2.2.2.1, ec0, e5, iy.2.2.2.2.2.1]
    refine br_f (nI_ge (by omega) (by omega)) ⟨iy.2.2.2.2.1, br_c (fun z => ?_) (fun z => nm_r (nI_1 _) (ih (j + 1) n (by omega) (by omega) ?_))⟩
    · rw [if_pos z] at h; exact h
    · rw [if_neg z] at h; exact h
theorem xx_mix {i c : Nat} {x : Int32} (hi : i < 24) (hc : c ≤ 5) (ec0 : cc i = nI c)
    (h : post (bt_o (bt_f (fun m => mn (5 * i + m) = x) 0 c))) : wpX_memberIndex post (ls, tl, ec, kc, st, dr, nm, pa, ve, sz, it, sm, hl, th, sp, tb, dl, dn, cc, cv, mn, mc, oc, on, om, op, tr, el, cm) (nI i) x :=
  ⟨c + 1, xx_mix_l hi hc ec0 c 0 (c + 1) (by omega) (by omega) h⟩
end
end
section
section
variable {ls tl ec kc : Int32} {st dr nm pa ve sz it sm hl th sp tb dl dn cc cv mn mc oc on om op tr el cm : Nat → Int32} {es tt se fr : Int32} {sY tY dy dm vc ms me cr hd hN ps la ey tn tm sn sc fn fc : Nat → Int32} {post : Int32 → Prop}
theorem xx_after_l {d g : Int32} : ∀ (e i n : Nat) (b : Option Nat), (∀ m, b = some m → m < 48) → i + e = 48 → e < n → post (bt_o (bt_nx (fun n => (st n = 1 ∧ pa n = d) ∧ ¬ sm n ≤ g) sm i e b)) → wX_childMadeAfter_5 post d g ls tl ec kc st dr nm pa ve sz it sm hl th sp tb dl dn cc cv mn mc oc on om op tr el cm n (bt_o b) (nI i) := by
  intro e
  induction e with
  | zero =>
    intro i n b hb hi hn h
    obtain ⟨n, rfl⟩ : ∃ n', n = n' + 1 := ⟨n - 1, by omega⟩
    have : i = 48 := by omega
    subst this
    refine br_t (by decide) ?_
    cases b with
    | none => exact h
    | some b => exact h
  | succ e ih =>
    intro i n b hb hi hn h
    obtain ⟨n, rfl⟩ : ∃ n', n = n' + 1 := ⟨n - 1, by omega⟩
    have ix := bt_ix48 (q := i) (by omega)
    have hi48 : ∀ m, some i = some m → m < 48 := fun m hm => by cases hm; omega
    refine br_f ix.2.2.2.1 (xx_isChild (by omega) (fun y => br_f (by decide) ⟨ix.2.2.2.2.1, ?_⟩) (fun y => br_t rfl (nm_r (nI_1 _) (ih (i + 1) n b hb (by omega) (by omega) ?_))))
    · rw [ix.2.2.2.2.2.1]
      refine br_c (fun z => nm_r (nI_1 _) (ih (i + 1) n b hb (by omega) (by omega) ?_)) (fun z => ?_)
      · cases b with
        | none => simp only [bt_nx] at h; rw [if_neg (fun w => w.2 z)] at h; exact h
        | some b => simp only [bt_nx] at h; rw [if_neg (fun w => w.1.2 z)] at h; exact h
      · cases b with
        | none =>
          simp only [bt_nx] at h; rw [if_pos ⟨y, z⟩] at h
          exact br_t rfl (nm_r (nI_1 _) (ih (i + 1) n (some i) hi48 (by omega) (by omega) h))
        | some b =>
          have iy := bt_ix48 (q := b) (hb b rfl)
          refine br_f iy.2.2.2.2.2.2 ⟨ix.2.2.2.2.1, iy.2.2.2.2.1, ?_⟩
          simp only [bt_nx] at h
          show (sm (nI b).toNatClampNeg ≤ sm i → _) ∧ (¬ sm (nI b).toNatClampNeg ≤ sm i → _)
          rw [iy.2.2.2.2.2.1]
          refine br_c (fun w => nm_r (nI_1 _) (ih (i + 1) n (some b) hb (by omega) (by omega) ?_)) (fun w => nm_r (nI_1 _) (ih (i + 1) n (some i) hi48 (by omega) (by omega) ?_))
          · rw [if_neg (fun q => q.2 w)] at h; exact h
          · rw [if_pos ⟨⟨y, z⟩, w⟩] at h; exact h
    · cases b with
      | none => simp only [bt_nx] at h; rw [if_neg (fun w => y w.1)] at h; exact h
      | some b => simp only [bt_nx] at h; rw [if_neg (fun w => y w.1.1)] at h; exact h
theorem xx_after {d g : Int32} (h : post (bt_o (bt_nx (fun n => (st n = 1 ∧ pa n = d) ∧ ¬ sm n ≤ g) sm 3 45 none))) : wpX_childMadeAfter post (ls, tl, ec, kc, st, dr, nm, pa, ve, sz, it, sm, hl, th, sp, tb, dl, dn, cc, cv, mn, mc, oc, on, om, op, tr, el, cm) d g :=
  ⟨46, xx_after_l 45 3 46 none (fun m h => by cases h) rfl (by omega) h⟩
theorem yy_next_l {d g : Int32} : ∀ (e i n : Nat) (b : Option Nat), (∀ m, b = some m → m < 48) → i + e = 48 → e < n → post (bt_o (bt_nx (fun n => (st n = 1 ∧ pa n = d) ∧ ¬ sm n ≤ g) sm i e b)) → wY_nextChild_5 post d g ls es tt se fr st nm pa ve sz sm it dr th sY tY dl dy dm vc ms me cr hd hN ps la ey tn tm sn sc fn fc n (bt_o b) (nI i) := by
  intro e
  induction e with
  | zero =>
    intro i n b hb hi hn h
    obtain ⟨n, rfl⟩ : ∃ n', n = n' + 1 := ⟨n - 1, by omega⟩
    have : i = 48 := by omega
    subst this
    refine br_t (by decide) ?_
    cases b with
    | none => exact h
    | some b => exact h
  | succ e ih =>
    intro i n b hb hi hn h
    obtain ⟨n, rfl⟩ : ∃ n', n = n' + 1 := ⟨n - 1, by omega⟩
    have ix := bt_ix48 (q := i) (by omega)
    have hi48 : ∀ m, some i = some m → m < 48 := fun m hm => by cases hm; omega
    have no : ¬ ((st i = 1 ∧ pa i = d) ∧ ¬ sm i ≤ g) → wY_nextChild_49 post (wY_nextChild_5 post d g ls es tt se fr st nm pa ve sz sm it dr th sY tY dl dy dm vc ms me cr hd hN ps la ey tn tm sn sc fn fc n) d g (bt_o b) (nI i) ls es tt se fr st nm pa ve sz sm it dr th sY tY dl dy dm vc ms me cr hd hN ps la ey tn tm sn sc fn fc := by
      intro y
      refine br_t rfl (nm_r (nI_1 _) (ih (i + 1) n b hb (by omega) (by omega) ?_))
      cases b with
      | none => simp only [bt_nx] at h; rw [if_neg y] at h; exact h
      | some b => simp only [bt_nx] at h; rw [if_neg (fun w => y w.1)] at h; exact h
    refine br_f ix.2.2.2.1 ⟨ix.2.2.2.2.1, ?_⟩
    rw [ix.2.2.2.2.2.1]
    refine br_c (fun y1 => ⟨ix.2.2.2.2.1, br_c (fun y2 => ⟨ix.2.2.2.2.1, br_c (fun z => no (fun w => w.2 z)) (fun z => br_f (by decide) ?_)⟩) (fun y2 => no (fun w => y2 w.1.2))⟩) (fun y1 => no (fun w => y1 w.1.1))
    cases b with
    | none =>
      simp only [bt_nx] at h; rw [if_pos ⟨⟨y1, y2⟩, z⟩] at h
      exact br_t (by decide) (nm_r (nI_1 _) (ih (i + 1) n (some i) hi48 (by omega) (by omega) h))
    | some b =>
      have iy := bt_ix48 (q := b) (hb b rfl)
      refine br_f iy.1 ⟨ix.2.2.2.2.1, iy.2.2.2.2.1, ?_⟩
      simp only [bt_nx] at h
      show (sm (nI b).toNatClampNeg ≤ sm (nI i).toNatClampNeg → _) ∧ (¬ sm (nI b).toNatClampNeg ≤ sm (nI i).toNatClampNeg → _)
      rw [iy.2.2.2.2.2.1, ix.2.2.2.2.2.1]
      refine br_c (fun w => nm_r (nI_1 _) (ih (i + 1) n (some b) hb (by omega) (by omega) ?_)) (fun w => nm_r (nI_1 _) (ih (i + 1) n (some i) hi48 (by omega) (by omega) ?_))
      · rw [if_neg (fun q => q.2 w)] at h; exact h
      · rw [if_pos ⟨⟨⟨y1, y2⟩, z⟩, w⟩] at h; exact h
theorem yy_next {d g : Int32} (h : post (bt_o (bt_nx (fun n => (st n = 1 ∧ pa n = d) ∧ ¬ sm n ≤ g) sm 3 45 none))) : wpY_nextChild post (ls, es, tt, se, fr, st, nm, pa, ve, sz, sm, it, dr, th, sY, tY, dl, dy, dm, vc, ms, me, cr, hd, hN, ps, la, ey, tn, tm, sn, sc, fn, fc) d g :=
  ⟨46, yy_next_l 45 3 46 none (fun m h => by cases h) rfl (by omega) h⟩
theorem yy_isP1 {q : Nat} (hq : q < 4) (ht : th q ≠ 0) (h : post 1) : wpY_isProcess post (ls, es, tt, se, fr, st, nm, pa, ve, sz, sm, it, dr, th, sY, tY, dl, dy, dm, vc, ms, me, cr, hd, hN, ps, la, ey, tn, tm, sn, sc, fn, fc) (nI q) := by
  have ix := bt_ix4 hq
  refine br_f ix.1 (br_f ix.2.2.2.1 ⟨ix.2.2.2.2.1, br_f ?_ h⟩)
  rw [ix.2.2.2.2.2.1]; exact ht
theorem yy_isP0 {p : Int32} (hp : ¬ ∃ q, q < 4 ∧ p = nI q ∧ th q ≠ 0) (h : post 0) : wpY_isProcess post (ls, es, tt, se, fr, st, nm, pa, ve, sz, sm, it, dr, th, sY, tY, dl, dy, dm, vc, ms, me, cr, hd, hN, ps, la, ey, tn, tm, sn, sc, fn, fc) p := by
  by_cases a : p < 0
  · exact br_t a h
  refine br_f a ?_
  by_cases b : (4 : Int32) ≤ p
  · exact br_t b h
  refine br_f b ?_
  rcases pk_ix p (n := 4) (by decide) with c | c | ⟨j, hj, rfl⟩
  · exact absurd c a
  · exact absurd c b
  · have ix := bt_ix4 hj
    have z : th j = 0 := Classical.byContradiction fun z => hp ⟨j, hj, rfl, z⟩
    refine ⟨ix.2.2.2.2.1, br_t ?_ h⟩
    rw [ix.2.2.2.2.2.1]; exact z
theorem yy_children_l {d : Int32} : ∀ (e i n : Nat) (c : Int32), i + e = 48 → e < n → post (bt_ct (fun n => st n = 1 ∧ pa n = d) i e c) → wY_children_4 post d ls es tt se fr st nm pa ve sz sm it dr th sY tY dl dy dm vc ms me cr hd hN ps la ey tn tm sn sc fn fc n c (nI i) := by
  intro e
  induction e with
  | zero =>
    intro i n c hi hn h
    obtain ⟨n, rfl⟩ : ∃ n', n = n' + 1 := ⟨n - 1, by omega⟩
    have : i = 48 := by omega
    subst this
    exact br_t (by decide) h
  | succ e ih =>
    intro i n c hi hn h
    obtain ⟨n, rfl⟩ : ∃ n', n = n' + 1 := ⟨n - 1, by omega⟩
    have ix := bt_ix48 (q := i) (by omega)
    simp only [bt_ct] at h
    refine br_f ix.2.2.2.1 ⟨ix.2.2.2.2.1, ?_⟩
    rw [ix.2.2.2.2.2.1]
    refine br_c (fun y => ⟨ix.2.2.2.2.1, br_c (fun z => nm_e (nm_r (nI_1 _) (ih (i + 1) n _ (by omega) (by omega) ?_))) (fun z => nm_r (nI_1 _) (ih (i + 1) n _ (by omega) (by omega) ?_))⟩) (fun y => nm_r (nI_1 _) (ih (i + 1) n _ (by omega) (by omega) ?_))
    · rw [if_pos ⟨y, z⟩] at h; exact h
    · rw [if_neg (fun w => z w.2)] at h; exact h
    · rw [if_neg (fun w => y w.1)] at h; exact h
theorem yy_children {d : Int32} (h : post (bt_ct (fun n => st n = 1 ∧ pa n = d) 3 45 0)) : wpY_children post (ls, es, tt, se, fr, st, nm, pa, ve, sz, sm, it, dr, th, sY, tY, dl, dy, dm, vc, ms, me, cr, hd, hN, ps, la, ey, tn, tm, sn, sc, fn, fc) d :=
  ⟨46, yy_children_l 45 3 46 0 rfl (by omega) h⟩
theorem yy_coverOf_l {P : Nat → Prop} [DecidablePred P] {b : Nat} {x : Int32} (hb : b < 4) (hP : ∀ k, k < 6 → (vc (6 * b + k) = x ↔ P k)) :
    ∀ (e i n : Nat), i + e = 6 → e < n → post (bt_of (6 * b) (bt_f P i e)) → wY_coverOf_5 post (nI b) x ls es tt se fr st nm pa ve sz sm it dr th sY tY dl dy dm vc ms me cr hd hN ps la ey tn tm sn sc fn fc n (nI (6 * b + i)) := by
  have lim : 6 * nI b + 6 = nI (6 * b + 6) := by rw [bt_6m, bt_p6]
  intro e
  induction e with
  | zero =>
    intro i n hi hn h
    obtain ⟨n, rfl⟩ : ∃ n', n = n' + 1 := ⟨n - 1, by omega⟩
    have : i = 6 := by omega
    subst this
    refine br_t ?_ h
    rw [lim]; exact Int32.le_refl _
  | succ e ih =>
    intro i n hi hn h
    obtain ⟨n, rfl⟩ : ∃ n', n = n' + 1 := ⟨n - 1, by omega⟩
    have ix := bt_ix24 (q := 6 * b + i) (by omega)
    simp only [bt_f] at h
    refine br_f ?_ ⟨ix.2.2.2.2.1, ?_⟩
    · rw [lim]; exact nI_ge (by omega) (by omega)
    rw [ix.2.2.2.2.2.1]
    refine ek_if (hP i (by omega)) (fun z => ?_) (fun z => nm_r (nI_1 _) (ih (i + 1) n (by omega) (by omega) ?_))
    · rw [if_pos z] at h; exact h
    · rw [if_neg z] at h; exact h
theorem yy_coverOf {a b : Nat} {x : Int32} (hb : b < 4) (hC : ∀ k, k < 6 → bt_C st cc cv mn mc vc ms me cr (6 * a + k) (6 * b + k)) (hx : x ≠ -1)
    (h : post (bt_of (6 * b) (bt_cf cc cv a x))) : wpY_coverOf post (ls, es, tt, se, fr, st, nm, pa, ve, sz, sm, it, dr, th, sY, tY, dl, dy, dm, vc, ms, me, cr, hd, hN, ps, la, ey, tn, tm, sn, sc, fn, fc) (nI b) x := by
  refine nm_r (bt_6m b) ⟨7, yy_coverOf_l hb (fun k hk => ?_) 6 0 7 rfl (by omega) h⟩
  rcases hC k hk with ⟨u, w⟩ | ⟨c, c1, c5, u1, u2, u3, u4, u5⟩
  · exact ⟨fun z => absurd (z.symm.trans w) hx, fun z => absurd u z.1⟩
  · rw [u3]
    exact ⟨fun z => ⟨by rw [u1]; exact nI_ne0 (by omega) (by omega), z⟩, fun z => z.2⟩
theorem yy_free {a b : Nat} (hb : b < 4) (hC : ∀ k, k < 6 → bt_C st cc cv mn mc vc ms me cr (6 * a + k) (6 * b + k))
    (h : post (bt_of (6 * b) (bt_uf cc a))) : wpY_coverOf post (ls, es, tt, se, fr, st, nm, pa, ve, sz, sm, it, dr, th, sY, tY, dl, dy, dm, vc, ms, me, cr, hd, hN, ps, la, ey, tn, tm, sn, sc, fn, fc) (nI b) (-1) := by
  refine nm_r (bt_6m b) ⟨7, yy_coverOf_l hb (fun k hk => ?_) 6 0 7 rfl (by omega) h⟩
  rcases hC k hk with ⟨u, w⟩ | ⟨c, c1, c5, u1, u2, u3, u4, u5⟩
  · exact ⟨fun _ => u, fun _ => w⟩
  · rw [← u3, u1]
    exact ⟨fun z => absurd z (bt_Nx u4), fun z => absurd z (nI_ne0 (by omega) (by omega))⟩
theorem yy_look_l {post : SY → Prop} {j c : Nat} (hj : j < 24) (hc : c ≤ 5) (hB : ∀ i, bt_B (cr i))
    (h : ∀ sn2 sc2 : Nat → Int32, (∀ m, m < c → sn2 m = me (5 * j + m)) → (∀ m, m < c → sc2 m = cr (5 * j + m)) → post (ls, es, tt, nI c, fr, st, nm, pa, ve, sz, sm, it, dr, th, sY, tY, dl, dy, dm, vc, ms, me, cr, hd, hN, ps, la, ey, tn, tm, sn2, sc2, fn, fc)) :
    ∀ (e i n : Nat) (sn2 sc2 : Nat → Int32), i + e = c → e < n → (∀ m, m < i → sn2 m = me (5 * j + m)) → (∀ m, m < i → sc2 m = cr (5 * j + m)) →
      wY_look_47 post (nI j) ls es tt (nI c) fr n (nI i) st nm pa ve sz sm it dr th sY tY dl dy dm vc ms me cr hd hN ps la ey tn tm sn2 sc2 fn fc := by
  have ix := bt_ix24 hj
  intro e
  induction e with
  | zero =>
    intro i n sn2 sc2 hi hn h1 h2
    obtain ⟨n, rfl⟩ : ∃ n', n = n' + 1 := ⟨n - 1, by omega⟩
    have : i = c := by omega
    subst this
    exact br_f ix.1 (br_t (Int32.le_refl _) (h _ _ h1 h2))
  | succ e ih =>
    intro i n sn2 sc2 hi hn h1 h2
    obtain ⟨n, rfl⟩ : ∃ n', n = n' + 1 := ⟨n - 1, by omega⟩
    have iy := bt_ix120 (q := 5 * j + i) (by omega)
    have iz := bt_ix5 (q := i) (by omega)
    have e5 : 5 * nI j + nI i = nI (5 * j + i) := by rw [bt_5m, nI_add]
    refine br_f ix.1 (br_f (nI_ge (by omega) (by omega)) ?_)
    rw [e5, iy.2.2.2.2.2.1, iz.2.2.2.2.2.1, bt_nB (hB _)]
    refine ⟨iy.2.2.2.2.1, iz.2.2.2.2.1, nm_e ⟨iy.2.2.2.2.1, iz.2.2.2.2.1, nm_e (nm_r (nI_1 _) (ih (i + 1) n _ _ (by omega) (by omega) (fun m hm => ?_) (fun m hm => ?_)))⟩⟩
    · by_cases w : m = i
      · rw [w, pk_us]
      · rw [pk_un w]; exact h1 m (by omega)
    · by_cases w : m = i
      · rw [w, pk_us]
      · rw [pk_un w]; exact h2 m (by omega)
theorem yy_look {post : SY → Prop} {p a b c : Nat} {x : Int32} {o : Option Nat} (hp : p < 4) (hb : b < 4) (sb : sY p = nI b) (hB : ∀ i, bt_B (cr i))
    (hC : ∀ k, k < 6 → bt_C st cc cv mn mc vc ms me cr (6 * a + k) (6 * b + k)) (hx : bt_N st x) (ho : bt_cf cc cv a x = o) (hv : bt_vn cc a o = nI c) (c1 : 1 ≤ c) (c5 : c ≤ 5)
    (h : ∀ sn2 sc2 : Nat → Int32, (∀ m, m < c → sn2 m = bt_vg mn a x o m) → (o = none → sc2 0 = 0) → (∀ k, o = some k → ∀ m, m < c → sc2 m = mc (5 * (6 * a + k) + m)) → post (ls, es, tt, nI c, fr, st, nm, pa, ve, sz, sm, it, dr, th, sY, tY, dl, dy, dm, vc, ms, me, cr, hd, hN, ps, la, ey, tn, tm, sn2, sc2, fn, fc)) :
    wpY_look post (ls, es, tt, se, fr, st, nm, pa, ve, sz, sm, it, dr, th, sY, tY, dl, dy, dm, vc, ms, me, cr, hd, hN, ps, la, ey, tn, tm, sn, sc, fn, fc) (nI p) x := by
  have ip := bt_ix4 hp
  refine ⟨ip.2.2.2.2.1, ?_⟩
  rw [ip.2.2.2.2.2.1, sb]
  refine yy_coverOf hb hC (bt_Nx hx) ?_
  obtain ⟨c', _, c5', v', vN, v0, vS⟩ := bt_view hC hx
  rw [ho] at v' vN v0 vS ⊢
  have ec : c' = c := bt_inj (by omega) (by omega) (v'.symm.trans hv)
  subst ec
  cases o with
  | none =>
    have e1 : c' = 1 := v0 rfl
    subst e1
    refine br_f (show ¬ (0 : Int32) ≤ -1 by decide) (nm_e (nm_e ⟨1, br_t (show (-1 : Int32) < 0 by decide) (h _ _ (fun m hm => ?_) (fun _ => ?_) (fun k hk => by cases hk))⟩))
    · have : m = 0 := by omega
      rw [this]; exact pk_us
    · rw [pk_us]; exact bt_n0
  | some k =>
    obtain ⟨k6, u1, u2, u3, u4, u5⟩ := vS k rfl
    have ix := bt_ix24 (q := 6 * b + k) (by omega)
    refine br_t ix.2.1 ⟨ix.2.2.2.2.1, ?_⟩
    show wY_look_27 post x (nI (6 * b + k)) (ms (nI (6 * b + k)).toNatClampNeg) ls es tt se fr st nm pa ve sz sm it dr th sY tY dl dy dm vc ms me cr hd hN ps la ey tn tm sn sc fn fc
    rw [ix.2.2.2.2.2.1, u2]
    refine nm_e (nm_e ⟨c' + 1, yy_look_l (by omega) c5 hB (fun sn2 sc2 h1 h2 => h _ _ (fun m hm => ?_) (fun z => by cases z) (fun k' hk' m hm => ?_)) c' 0 (c' + 1) _ _ (by omega) (by omega) (fun m hm => by omega) (fun m hm => by omega)⟩)
    · rw [h1 m hm]; exact (u5 m hm).1.symm
    · cases hk'
      rw [h2 m hm]; exact (u5 m hm).2.1.symm
end
end
section
section
variable {ls tl ec kc : Int32} {st dr nm pa ve sz it sm hl th sp tb dl dn cc cv mn mc oc on om op tr el cm : Nat → Int32} {es tt se fr : Int32} {sY tY dy dm vc ms me cr hd hN ps la ey tn tm sn sc fn fc : Nat → Int32}
theorem yy_cs_l {post : Int32 → Prop} {J : Int32 → Prop} {y : Int32} {k : Nat} (hk : k < 5) : ∀ (e i n : Nat), i + e = 48 → e < n →
    (∀ m, bt_f (fun n => st n = 1 ∧ pa n = sn k ∧ nm n = y) i e = some m → post (nI m)) → (bt_f (fun n => st n = 1 ∧ pa n = sn k ∧ nm n = y) i e = none → J (nI (k + 1))) →
    wY_childSeen_12 post J y (nI k) ls es tt se fr st nm pa ve sz sm it dr th sY tY dl dy dm vc ms me cr hd hN ps la ey tn tm sn sc fn fc n (nI i) := by
  have iz := bt_ix5 hk
  intro e
  induction e with
  | zero =>
    intro i n hi hn h1 h2
    obtain ⟨n, rfl⟩ : ∃ n', n = n' + 1 := ⟨n - 1, by omega⟩
    have : i = 48 := by omega
    subst this
    exact br_t (by decide) (nm_r (nI_1 _) (h2 rfl))
  | succ e ih =>
    intro i n hi hn h1 h2
    obtain ⟨n, rfl⟩ : ∃ n', n = n' + 1 := ⟨n - 1, by omega⟩
    have ix := bt_ix48 (q := i) (by omega)
    simp only [bt_f] at h1 h2
    have no : ¬ (st i = 1 ∧ pa i = sn k ∧ nm i = y) → wY_childSeen_12 post J y (nI k) ls es tt se fr st nm pa ve sz sm it dr th sY tY dl dy dm vc ms me cr hd hN ps la ey tn tm sn sc fn fc n (nI (i + 1)) := by
      intro z
      rw [if_neg z] at h1 h2
      exact ih (i + 1) n (by omega) (by omega) h1 h2
    refine br_f ix.2.2.2.1 ⟨ix.2.2.2.2.1, ?_⟩
    rw [ix.2.2.2.2.2.1, iz.2.2.2.2.2.1]
    refine br_c (fun z1 => ⟨ix.2.2.2.2.1, iz.2.2.2.2.1, br_c (fun z2 => ⟨ix.2.2.2.2.1, br_c (fun z3 => h1 i (if_pos ⟨z1, z2, z3⟩)) (fun z3 => nm_r (nI_1 _) (no (fun w => z3 w.2.2)))⟩) (fun z2 => nm_r (nI_1 _) (no (fun w => z2 w.2.1)))⟩) (fun z1 => nm_r (nI_1 _) (no (fun w => z1 w.1)))
theorem yy_cs2_l {post : Int32 → Prop} {y : Int32} {c : Nat} {g : Nat → Int32} (hc : c ≤ 5) (hg : ∀ m, m < c → sn m = g m) : ∀ (e k n : Nat), k + e = c → e < n →
    post (bt_o (bt_lk (fun d => bt_ch st pa nm d y) g k e)) → wY_childSeen_2 post y ls es tt (nI c) fr st nm pa ve sz sm it dr th sY tY dl dy dm vc ms me cr hd hN ps la ey tn tm sn sc fn fc n (nI k) := by
  intro e
  induction e with
  | zero =>
    intro k n hk hn h
    obtain ⟨n, rfl⟩ : ∃ n', n = n' + 1 := ⟨n - 1, by omega⟩
    exact br_t (nI_le (by omega) (by omega)) h
  | succ e ih =>
    intro k n hk hn h
    obtain ⟨n, rfl⟩ : ∃ n', n = n' + 1 := ⟨n - 1, by omega⟩
    simp only [bt_lk] at h
    refine br_f (nI_ge (by omega) (by omega)) ⟨46, yy_cs_l (by omega) 45 3 46 rfl (by omega) (fun m hm => ?_) (fun hm => ?_)⟩
    · have hm' : bt_ch st pa nm (g k) y = some m := by rw [← hg k (by omega)]; exact hm
      rw [hm'] at h; exact h
    · have hm' : bt_ch st pa nm (g k) y = none := by rw [← hg k (by omega)]; exact hm
      rw [hm'] at h
      exact ih (k + 1) n (by omega) (by omega) h
theorem yy_childSeen {post : Int32 → Prop} {y : Int32} {c : Nat} {g : Nat → Int32} (hc : c ≤ 5) (hg : ∀ m, m < c → sn m = g m)
    (h : post (bt_o (bt_lk (fun d => bt_ch st pa nm d y) g 0 c))) : wpY_childSeen post (ls, es, tt, nI c, fr, st, nm, pa, ve, sz, sm, it, dr, th, sY, tY, dl, dy, dm, vc, ms, me, cr, hd, hN, ps, la, ey, tn, tm, sn, sc, fn, fc) y :=
  ⟨c + 1, yy_cs2_l hc hg c 0 (c + 1) (by omega) (by omega) h⟩
theorem xx_readE_l {m D : Nat} (hm : m < 2 ^ 31) (hD : bt_dg m D) (h6 : D ≤ 6) : ∀ (e i : Nat) (el : Nat → Int32), i + e = D → (∀ j, j < i → el j = nI (m / 11 ^ j % 11)) →
    ∃ el2 : Nat → Int32, (∀ j, j < D → el2 j = nI (m / 11 ^ j % 11)) ∧ ∀ (post : SX → Prop) (n : Nat), e < n → post (ls, tl, nI D, kc, st, dr, nm, pa, ve, sz, it, sm, hl, th, sp, tb, dl, dn, cc, cv, mn, mc, oc, on, om, op, tr, el2, cm) →
      wX_readElements_12 post ls tl kc n (nI (m / 11 ^ i)) (nI i) (nI i) st dr nm pa ve sz it sm hl th sp tb dl dn cc cv mn mc oc on om op tr el cm := by
  intro e
  induction e with
  | zero =>
    intro i el hi hj
    have : i = D := by omega
    subst this
    refine ⟨el, hj, fun post n hn h => ?_⟩
    obtain ⟨n, rfl⟩ : ∃ n', n = n' + 1 := ⟨n - 1, by omega⟩
    have z : m / 11 ^ i = 0 := Nat.eq_zero_of_not_pos (fun y => Nat.lt_irrefl _ ((hD.2 i).mpr y))
    refine br_c (fun _ => h) (fun _ => br_t ?_ h)
    rw [z]; decide
  | succ e ih =>
    intro i el hi hj
    obtain ⟨el2, a, f⟩ := ih (i + 1) (upd el i (nI (m / 11 ^ i % 11))) (by omega) (fun j hj2 => by
      by_cases w : j = i
      · rw [w, pk_us]
      · rw [pk_un w]; exact hj j (by omega))
    refine ⟨el2, a, fun post n hn h => ?_⟩
    obtain ⟨n, rfl⟩ : ∃ n', n = n' + 1 := ⟨n - 1, by omega⟩
    have ix := bt_ix6 (q := i) (by omega)
    have hp : 0 < m / 11 ^ i := (hD.2 i).mp (by omega)
    have nz : ¬ nI (m / 11 ^ i) ≤ 0 := fun z => by have := (bt_le0 (bt_dlt hm i)).mp z; omega
    refine br_f ix.2.2.2.1 (br_f nz ⟨bt_11, ix.2.2.2.2.1, ?_⟩)
    rw [ix.2.2.2.2.2.1, bt_r11 (bt_dlt hm i), bt_d11 (bt_dlt hm i), bt_dv, nI_1]
    exact nm_e (nm_e ⟨bt_11, nm_e (nm_e (f post n (by omega) h))⟩)
theorem xx_readE {x : Int32} {m D : Nat} (hm : bt_rw x m) (hD : bt_dg m D) (h6 : D ≤ 6) :
    ∃ el2 : Nat → Int32, (∀ j, j < D → el2 j = nI (m / 11 ^ j % 11)) ∧ ∀ (post : SX → Prop), post (ls, tl, nI D, kc, st, dr, nm, pa, ve, sz, it, sm, hl, th, sp, tb, dl, dn, cc, cv, mn, mc, oc, on, om, op, tr, el2, cm) → wpX_readElements post (ls, tl, ec, kc, st, dr, nm, pa, ve, sz, it, sm, hl, th, sp, tb, dl, dn, cc, cv, mn, mc, oc, on, om, op, tr, el, cm) x := by
  obtain ⟨el2, a, f⟩ := xx_readE_l (ls := ls) (tl := tl) (kc := kc) (st := st) (dr := dr) (nm := nm) (pa := pa) (ve := ve) (sz := sz) (it := it) (sm := sm) (hl := hl) (th := th) (sp := sp) (tb := tb) (dl := dl) (dn := dn) (cc := cc) (cv := cv) (mn := mn) (mc := mc) (oc := oc) (on := on) (om := om) (op := op) (tr := tr) (cm := cm) hm.1 hD h6 D 0 el (by omega) (fun j h => by omega)
  refine ⟨el2, a, fun post h => ?_⟩
  unfold wpX_readElements
  refine xx_row hm ⟨D + 1, ?_⟩
  have := f post (D + 1) (by omega) h
  rw [Nat.pow_zero, Nat.div_one] at this
  exact this
theorem xx_begin_l {p L : Nat} (hp : p < 4) (hL : L ≤ 7) : ∀ (e i : Nat) (tr : Nat → Int32), i + e = L → (∀ j, j < i → tr j = dn (7 * p + j)) →
    ∃ tr2 : Nat → Int32, (∀ j, j < L → tr2 j = dn (7 * p + j)) ∧ ∀ (post : SX → Prop) (n : Nat), e < n → post (ls, nI L, ec, kc, st, dr, nm, pa, ve, sz, it, sm, hl, th, sp, tb, dl, dn, cc, cv, mn, mc, oc, on, om, op, tr2, el, cm) →
      wX_beginTrail_20 post (nI p) ls (nI L) ec kc n (nI i) st dr nm pa ve sz it sm hl th sp tb dl dn cc cv mn mc oc on om op tr el cm := by
  intro e
  induction e with
  | zero =>
    intro i tr hi hj
    have : i = L := by omega
    subst this
    refine ⟨tr, hj, fun post n hn h => ?_⟩
    obtain ⟨n, rfl⟩ : ∃ n', n = n' + 1 := ⟨n - 1, by omega⟩
    exact br_t (Int32.le_refl _) h
  | succ e ih =>
    intro i tr hi hj
    obtain ⟨tr2, a, f⟩ := ih (i + 1) (upd tr i (dn (7 * p + i))) (by omega) (fun j hj2 => by
      by_cases w : j = i
      · rw [w, pk_us]
      · rw [pk_un w]; exact hj j (by omega))
    refine ⟨tr2, a, fun post n hn h => ?_⟩
    obtain ⟨n, rfl⟩ : ∃ n', n = n' + 1 := ⟨n - 1, by omega⟩
    have ix := bt_ix7 (q := i) (by omega)
    have iy := bt_ix28 (q := 7 * p + i) (by omega)
    have e7 : nI p * 7 + nI i = nI (7 * p + i) := by rw [bt_m7, nI_add]
    refine br_f (nI_ge (by omega) (by omega)) ?_
    rw [e7, iy.2.2.2.2.2.1, ix.2.2.2.2.2.1, nI_1]
    exact ⟨iy.2.2.2.2.1, ix.2.2.2.2.1, nm_e (nm_e (f post n (by omega) h))⟩
theorem xx_begin {x : Int32} {p L : Nat} (hp : p < 4) (hL : L ≤ 7) (h1 : x < 0 → L = 1) (h2 : ¬ x < 0 → dl p = nI L) :
    ∃ tr2 : Nat → Int32, (∀ j, j < L → tr2 j = dn (7 * p + j)) ∧ ∀ (post : SX → Prop), post (ls, nI L, ec, kc, st, dr, nm, pa, ve, sz, it, sm, hl, th, sp, tb, dl, dn, cc, cv, mn, mc, oc, on, om, op, tr2, el, cm) → wpX_beginTrail post (ls, tl, ec, kc, st, dr, nm, pa, ve, sz, it, sm, hl, th, sp, tb, dl, dn, cc, cv, mn, mc, oc, on, om, op, tr, el, cm) (nI p) x := by
  obtain ⟨tr2, a, f⟩ := xx_begin_l (ls := ls) (ec := ec) (kc := kc) (st := st) (dr := dr) (nm := nm) (pa := pa) (ve := ve) (sz := sz) (it := it) (sm := sm) (hl := hl) (th := th) (sp := sp) (tb := tb) (dl := dl) (dn := dn) (cc := cc) (cv := cv) (mn := mn) (mc := mc) (oc := oc) (on := on) (om := om) (op := op) (el := el) (cm := cm) hp hL L 0 tr (by omega) (fun j h => by omega)
  refine ⟨tr2, a, fun post h => ?_⟩
  have ip := bt_ix4 hp
  by_cases z : x < 0
  · refine br_f (bt_neg0 z) ⟨L + 1, ?_⟩
    have := f post (L + 1) (by omega) h
    rw [h1 z] at this ⊢
    exact this
  · refine br_t (Int32.not_lt.mp z) ⟨ip.2.2.2.2.1, nm_r ?_ ⟨L + 1, f post (L + 1) (by omega) h⟩⟩
    rw [ip.2.2.2.2.2.1]; exact h2 z
theorem bt_am1 (x : Int32) : x + (-1) = x - 1 := by grind
theorem yy_split_b {post : Int32 → SY → Prop} {m D : Nat} (hm : m < 2 ^ 31) (hD : bt_dg m D) (h6 : D ≤ 6)
    (h1 : bt_g m D → ∀ ey2 : Nat → Int32, (∀ k, k < D → ey2 k = nI (m / 11 ^ (D - 1 - k) % 11)) → post 1 (ls, nI D, tt, se, fr, st, nm, pa, ve, sz, sm, it, dr, th, sY, tY, dl, dy, dm, vc, ms, me, cr, hd, hN, ps, la, ey2, tn, tm, sn, sc, fn, fc))
    (h0 : ¬ bt_g m D → ∀ ey2 : Nat → Int32, post 0 (ls, 0, tt, se, fr, st, nm, pa, ve, sz, sm, it, dr, th, sY, tY, dl, dy, dm, vc, ms, me, cr, hd, hN, ps, la, ey2, tn, tm, sn, sc, fn, fc)) :
    ∀ (e n : Nat) (ey2 : Nat → Int32), e ≤ D → e < n → (∀ k, e ≤ k → k < D → ey2 k = nI (m / 11 ^ (D - 1 - k) % 11)) → (∀ j, j < D - e → m / 11 ^ j % 11 ≠ 0) →
      wY_split_56 post (nI D) ls 0 tt se fr n (nI (m / 11 ^ (D - e))) (nI e - 1) st nm pa ve sz sm it dr th sY tY dl dy dm vc ms me cr hd hN ps la ey2 tn tm sn sc fn fc := by
  intro e
  induction e with
  | zero =>
    intro n ey2 he hn hk hj
    obtain ⟨n, rfl⟩ : ∃ n', n = n' + 1 := ⟨n - 1, by omega⟩
    exact br_t (by decide) (h1 ⟨h6, fun j h => hj j (by omega)⟩ ey2 (fun k h => hk k (by omega) h))
  | succ e ih =>
    intro n ey2 he hn hk hj
    obtain ⟨n, rfl⟩ : ∃ n', n = n' + 1 := ⟨n - 1, by omega⟩
    have ix := bt_ix6 (q := e) (by omega)
    rw [nI_pred]
    refine br_f ix.1 ⟨bt_11, ix.2.2.2.2.1, ?_⟩
    rw [ix.2.2.2.2.2.1, bt_r11 (bt_dlt hm _), bt_d11 (bt_dlt hm _), bt_dv, bt_am1]
    refine nm_e ⟨ix.2.2.2.2.1, ?_⟩
    rw [pk_us]
    refine ek_if (bt_e0 (by omega)) (fun z => h0 (fun g => g.2 _ (by omega) z) _) (fun z => ⟨bt_11, nm_e (nm_e ?_)⟩)
    have e1 : D - (e + 1) + 1 = D - e := by omega
    rw [e1]
    refine ih n _ (by omega) (by omega) (fun k h1 h2 => ?_) (fun j h => ?_)
    · by_cases w : k = e
      · rw [w, pk_us]
        have : D - (e + 1) = D - 1 - e := by omega
        rw [this]
      · rw [pk_un w]; exact hk k (by omega) h2
    · by_cases w : j = D - (e + 1)
      · rw [w]; exact z
      · exact hj j (by omega)
theorem yy_split_a {post : Int32 → SY → Prop} {m D : Nat} (hm : m < 2 ^ 31) (hD : bt_dg m D)
    (h1 : bt_g m D → ∀ ey2 : Nat → Int32, (∀ k, k < D → ey2 k = nI (m / 11 ^ (D - 1 - k) % 11)) → post 1 (ls, nI D, tt, se, fr, st, nm, pa, ve, sz, sm, it, dr, th, sY, tY, dl, dy, dm, vc, ms, me, cr, hd, hN, ps, la, ey2, tn, tm, sn, sc, fn, fc))
    (h0 : ¬ bt_g m D → ∀ ey2 : Nat → Int32, post 0 (ls, 0, tt, se, fr, st, nm, pa, ve, sz, sm, it, dr, th, sY, tY, dl, dy, dm, vc, ms, me, cr, hd, hN, ps, la, ey2, tn, tm, sn, sc, fn, fc)) :
    ∀ (e i n : Nat), i + e = D → e < n → wY_split_22 post (nI m) ls 0 tt se fr st nm pa ve sz sm it dr th sY tY dl dy dm vc ms me cr hd hN ps la ey tn tm sn sc fn fc n (nI i) (nI (m / 11 ^ i)) := by
  intro e
  induction e with
  | zero =>
    intro i n hi hn
    obtain ⟨n, rfl⟩ : ∃ n', n = n' + 1 := ⟨n - 1, by omega⟩
    have : i = D := by omega
    subst this
    have z : m / 11 ^ i = 0 := Nat.eq_zero_of_not_pos (fun y => Nat.lt_irrefl _ ((hD.2 i).mpr y))
    have h9 := hD.1
    refine br_t (by rw [z]; decide) (pk_le i 6 (fun h6 => nm_e ⟨i + 1, ?_⟩) (fun h6 => h0 (fun g => by have := g.1; omega) _))
    have := yy_split_b (post := post) hm hD h6 h1 h0 i (i + 1) ey (Nat.le_refl _) (by omega) (fun k a b => by omega) (fun j h => by omega)
    rw [Nat.sub_self, Nat.pow_zero, Nat.div_one] at this
    exact this
  | succ e ih =>
    intro i n hi hn
    obtain ⟨n, rfl⟩ : ∃ n', n = n' + 1 := ⟨n - 1, by omega⟩
    have hp : 0 < m / 11 ^ i := (hD.2 i).mp (by omega)
    have nz : ¬ nI (m / 11 ^ i) ≤ 0 := fun z => by have := (bt_le0 (bt_dlt hm i)).mp z; omega
    refine br_f nz (nm_r (nI_1 i) ⟨bt_11, nm_r ((bt_d11 (bt_dlt hm i)).trans (by rw [bt_dv])) (ih (i + 1) n (by omega) (by omega))⟩)
theorem yy_split {post : Int32 → SY → Prop} {x : Int32} {m D : Nat} (hm : bt_rw x m) (hD : bt_dg m D)
    (h1 : bt_g m D → ∀ ey2 : Nat → Int32, (∀ k, k < D → ey2 k = nI (m / 11 ^ (D - 1 - k) % 11)) → post 1 (ls, nI D, tt, se, fr, st, nm, pa, ve, sz, sm, it, dr, th, sY, tY, dl, dy, dm, vc, ms, me, cr, hd, hN, ps, la, ey2, tn, tm, sn, sc, fn, fc))
    (h0 : ¬ bt_g m D → ∀ ey2 : Nat → Int32, post 0 (ls, 0, tt, se, fr, st, nm, pa, ve, sz, sm, it, dr, th, sY, tY, dl, dy, dm, vc, ms, me, cr, hd, hN, ps, la, ey2, tn, tm, sn, sc, fn, fc)) : wpY_split post (ls, es, tt, se, fr, st, nm, pa, ve, sz, sm, it, dr, th, sY, tY, dl, dy, dm, vc, ms, me, cr, hd, hN, ps, la, ey, tn, tm, sn, sc, fn, fc) x := by
  have key : wY_split_11 post (nI m) ls es tt se fr st nm pa ve sz sm it dr th sY tY dl dy dm vc ms me cr hd hN ps la ey tn tm sn sc fn fc := by
    have := yy_split_a (post := post) (ey := ey) hm.1 hD h1 h0 D 0 (D + 1) (by omega) (by omega)
    rw [Nat.pow_zero, Nat.div_one] at this
    exact ⟨D + 1, this⟩
  rcases hm with ⟨_, ⟨a, b, e⟩ | ⟨a, b, e⟩⟩
  · refine br_f b ?_
    rw [e]; exact key
  · refine br_t b ?_
    rw [e]; exact key
end
end
section
def bt_tr (st nm tr tn tm : Nat → Int32) (L : Nat) : Prop :=
  1 ≤ L ∧ L ≤ 7 ∧ tr 0 = 0 ∧ ∀ i, i < L → tr i = tn i ∧ ∃ n, n < 48 ∧ tr i = nI n ∧ st n ≠ 0 ∧ (1 ≤ i → tm i = nm n)
def bt_an (st tr : Nat → Int32) (r : Int32) (L : Nat) : Prop :=
  (r < 0 ∧ ¬ 0 ≤ r) ∨ ∃ n, n < 48 ∧ r = nI n ∧ st n ≠ 0 ∧ tr (L - 1) = nI n
theorem bt_tr_u {st nm tr tn tm : Nat → Int32} {L m : Nat} {y : Int32} (h : bt_tr st nm tr tn tm L) (hL : L ≠ 7) (hm : m < 48) (hs : st m ≠ 0) (hy : nm m = y) :
    bt_tr st nm (upd tr L (nI m)) (upd tn L (nI m)) (upd tm L y) (L + 1) := by
  obtain ⟨a, b, c, f⟩ := h
  refine ⟨by omega, by omega, ?_, fun i hi => ?_⟩
  · rw [pk_un (by omega)]; exact c
  · by_cases e : i = L
    · rw [e, pk_us, pk_us, pk_us]
      exact ⟨rfl, m, hm, rfl, hs, fun _ => hy.symm⟩
    · rw [pk_un e, pk_un e, pk_un e]; exact f i (by omega)
theorem bt_tr_b {st nm tr tn tm : Nat → Int32} {L : Nat} (h : bt_tr st nm tr tn tm L) (hL : 1 < L) : bt_tr st nm tr tn tm (L - 1) :=
  ⟨by omega, by have := h.2.1; omega, h.2.2.1, fun i hi => h.2.2.2 i (by omega)⟩
theorem bt_e7 {m : Nat} (h : m < 2 ^ 31) : nI m = 7 ↔ m = 7 := nI_eq (b := 7) h (by decide)
section
variable {ls tl ec kc : Int32} {st dr nm pa ve sz it sm hl th sp tb dl dn cc cv mn mc oc on om op tr el cm : Nat → Int32} {es tt se fr : Int32} {sY tY dy dm vc ms me cr hd hN ps la ey tn tm sn sc fn fc : Nat → Int32}
theorem ev_l {p a b K : Nat} {E : Nat → Nat} {lv : Int32} (hp : p < 4) (ha : a < 4) (hb : b < 4) (sa : sp p = nI a) (sb : sY p = nI b) (hB : ∀ i, bt_B (cr i))
    (hC : ∀ k, k < 6 → bt_C st cc cv mn mc vc ms me cr (6 * a + k) (6 * b + k)) (hK : K ≤ 6) (hE : ∀ k, k < K → E k ≤ 10)
    (hx : ∀ j, j < K → el j = nI (E (K - 1 - j))) (hlv : es - lv = nI K) :
    ∀ (e k : Nat) (tr : Nat → Int32) (L : Nat), k + e = K → (∃ tn tm, bt_tr st nm tr tn tm L) →
      ∃ (r : Int32) (L' : Nat) (tr' : Nat → Int32), bt_an st tr' r L' ∧ (∃ tn tm, bt_tr st nm tr' tn tm L') ∧
        (∀ (post : Int32 → SX → Prop) (n : Nat), e < n → post r (ls, nI L', ec, kc, st, dr, nm, pa, ve, sz, it, sm, hl, th, sp, tb, dl, dn, cc, cv, mn, mc, oc, on, om, op, tr', el, cm) → wX_evaluate_35 post (nI p) n (nI e - 1) ls (nI L) ec kc st dr nm pa ve sz it sm hl th sp tb dl dn cc cv mn mc oc on om op tr el cm) ∧
        (∀ (post : Int32 → SY → Prop) (n : Nat) (fr : Int32) (fn fc ey tn tm sn sc : Nat → Int32) (se : Int32), e < n → (∀ k, k < K → ey k = nI (E k)) → bt_tr st nm tr tn tm L →
          (∀ (tn2 tm2 sn2 sc2 : Nat → Int32) (se2 : Int32), bt_tr st nm tr' tn2 tm2 L' → post r (ls, es, nI L', se2, fr, st, nm, pa, ve, sz, sm, it, dr, th, sY, tY, dl, dy, dm, vc, ms, me, cr, hd, hN, ps, la, ey, tn2, tm2, sn2, sc2, fn, fc)) →
          wY_evaluate_97 post (nI p) lv n (nI k) ls es (nI L) se fr st nm pa ve sz sm it dr th sY tY dl dy dm vc ms me cr hd hN ps la ey tn tm sn sc fn fc) := by
  have ip := bt_ix4 hp
  intro e
  induction e with
  | zero =>
    intro k tr L hk hT
    have hT' := hT
    obtain ⟨tn0, tm0, h⟩ := hT'
    obtain ⟨L1, L7, h00, hf⟩ := h
    obtain ⟨_, q, hq, eq, sq, _⟩ := hf (L - 1) (by omega)
    have il := bt_ix7 (q := L - 1) (by omega)
    have iq := bt_ix48 hq
    have ek : k = K := by omega
    by_cases z : st q = 2
    · refine ⟨-2, L, tr, Or.inl ⟨by decide, by decide⟩, hT, fun post n hn h => ?_, fun post n fr fn fc ey tn tm sn sc se hn hy ht h => ?_⟩
      · obtain ⟨n, rfl⟩ : ∃ n', n = n' + 1 := ⟨n - 1, by omega⟩
        refine br_t (by decide) ?_
        rw [bt_s1 (by omega), il.2.2.2.2.2.1, eq]
        refine ⟨il.2.2.2.2.1, nm_e ⟨iq.2.2.2.2.1, br_t ?_ h⟩⟩
        rw [iq.2.2.2.2.2.1]; exact z
      · obtain ⟨n, rfl⟩ : ∃ n', n = n' + 1 := ⟨n - 1, by omega⟩
        refine br_t (by rw [hlv, ek]; exact Int32.le_refl _) ?_
        rw [bt_s1 (by omega), il.2.2.2.2.2.1, ← (ht.2.2.2 (L - 1) (by omega)).1, eq]
        refine ⟨il.2.2.2.2.1, nm_e ⟨iq.2.2.2.2.1, br_t ?_ (h _ _ _ _ _ ht)⟩⟩
        rw [iq.2.2.2.2.2.1]; exact z
    · refine ⟨nI q, L, tr, Or.inr ⟨q, hq, rfl, sq, eq⟩, hT, fun post n hn h => ?_, fun post n fr fn fc ey tn tm sn sc se hn hy ht h => ?_⟩
      · obtain ⟨n, rfl⟩ : ∃ n', n = n' + 1 := ⟨n - 1, by omega⟩
        refine br_t (by decide) ?_
        rw [bt_s1 (by omega), il.2.2.2.2.2.1, eq]
        refine ⟨il.2.2.2.2.1, nm_e ⟨iq.2.2.2.2.1, br_f ?_ h⟩⟩
        rw [iq.2.2.2.2.2.1]; exact z
      · obtain ⟨n, rfl⟩ : ∃ n', n = n' + 1 := ⟨n - 1, by omega⟩
        refine br_t (by rw [hlv, ek]; exact Int32.le_refl _) ?_
        rw [bt_s1 (by omega), il.2.2.2.2.2.1, ← (ht.2.2.2 (L - 1) (by omega)).1, eq]
        refine ⟨il.2.2.2.2.1, nm_e ⟨iq.2.2.2.2.1, br_f ?_ (h _ _ _ _ _ ht)⟩⟩
        rw [iq.2.2.2.2.2.1]; exact z
  | succ e ih =>
    intro k tr L hk hT
    have hT' := hT
    obtain ⟨tn0, tm0, h⟩ := hT'
    have L1 := h.1
    have L7 := h.2.1
    have ie := bt_ix6 (q := e) (by omega)
    have ik := bt_ix6 (q := k) (by omega)
    have xe : el e = nI (E k) := by rw [hx e (by omega)]; exact congrArg (fun z => nI (E z)) (by omega)
    have E10 := hE k (by omega)
    have nk : ¬ es - lv ≤ nI k := by rw [hlv]; exact nI_ge (by omega) (by omega)
    -- one step of X, whatever follows
    have stepX : ∀ (post : Int32 → SX → Prop) (n : Nat) (r : Int32) (L2 : Nat) (tr2 : Nat → Int32),
        (∀ post2 : Int32 → SX → Prop, post2 r (ls, nI L2, ec, kc, st, dr, nm, pa, ve, sz, it, sm, hl, th, sp, tb, dl, dn, cc, cv, mn, mc, oc, on, om, op, tr2, el, cm) → wpX_step post2 (ls, nI L, ec, kc, st, dr, nm, pa, ve, sz, it, sm, hl, th, sp, tb, dl, dn, cc, cv, mn, mc, oc, on, om, op, tr, el, cm) (nI a) (nI (E k))) →
        ((r = 0 → wX_evaluate_35 post (nI p) n (nI e - 1) ls (nI L2) ec kc st dr nm pa ve sz it sm hl th sp tb dl dn cc cv mn mc oc on om op tr2 el cm) ∧ (¬ r = 0 → post r (ls, nI L2, ec, kc, st, dr, nm, pa, ve, sz, it, sm, hl, th, sp, tb, dl, dn, cc, cv, mn, mc, oc, on, om, op, tr2, el, cm))) →
        wX_evaluate_35 post (nI p) (n + 1) (nI (e + 1) - 1) ls (nI L) ec kc st dr nm pa ve sz it sm hl th sp tb dl dn cc cv mn mc oc on om op tr el cm := by
      intro post n r L2 tr2 hs hr
      rw [nI_pred]
      refine br_f ie.1 ?_
      rw [ip.2.2.2.2.2.1, sa, ie.2.2.2.2.2.1, xe]
      refine ⟨ip.2.2.2.2.1, ie.2.2.2.2.1, hs _ ?_⟩
      refine br_c (fun z => nm_r (bt_am1 _) (hr.1 z)) (fun z => hr.2 z)
    by_cases e10 : E k = 10
    · -- back
      have x10 : nI (E k) = 10 := by rw [e10]; rfl
      by_cases b1 : L ≤ 1
      · have eL : L = 1 := by omega
        subst eL
        obtain ⟨r, L', tr', an, hT2, fX, fY⟩ := ih (k + 1) tr 1 (by omega) hT
        refine ⟨r, L', tr', an, hT2, fun post n hn h => ?_, fun post n fr fn fc ey tn tm sn sc se hn hy ht h => ?_⟩
        · obtain ⟨n, rfl⟩ : ∃ n', n = n' + 1 := ⟨n - 1, by omega⟩
          exact stepX post n 0 1 tr (fun post2 h2 => br_t x10 (br_t (by decide) h2)) (br_t rfl (fX post n (by omega) h))
        · obtain ⟨n, rfl⟩ : ∃ n', n = n' + 1 := ⟨n - 1, by omega⟩
          refine br_f nk ⟨ik.2.2.2.2.1, ?_⟩
          rw [ik.2.2.2.2.2.1, hy k (by omega)]
          exact br_t x10 (br_t (by decide) (nm_r (nI_1 _) (fY post n fr fn fc ey tn tm sn sc se (by omega) hy ht h)))
      · obtain ⟨r, L', tr', an, hT2, fX, fY⟩ := ih (k + 1) tr (L - 1) (by omega) ⟨tn0, tm0, bt_tr_b h (by omega)⟩
        have nb : ¬ nI L ≤ 1 := nI_ge (a := 1) (by omega) (by omega)
        refine ⟨r, L', tr', an, hT2, fun post n hn h => ?_, fun post n fr fn fc ey tn tm sn sc se hn hy ht h => ?_⟩
        · obtain ⟨n, rfl⟩ : ∃ n', n = n' + 1 := ⟨n - 1, by omega⟩
          exact stepX post n 0 (L - 1) tr (fun post2 h2 => br_t x10 (br_f nb (nm_r (bt_s1 (by omega)) h2))) (br_t rfl (fX post n (by omega) h))
        · obtain ⟨n, rfl⟩ : ∃ n', n = n' + 1 := ⟨n - 1, by omega⟩
          refine br_f nk ⟨ik.2.2.2.2.1, ?_⟩
          rw [ik.2.2.2.2.2.1, hy k (by omega)]
          exact br_t x10 (br_f nb (nm_r (bt_s1 (by omega)) (nm_r (nI_1 _) (fY post n fr fn fc ey tn tm sn sc se (by omega) hy (bt_tr_b ht (by omega)) h))))
    · have x10 : ¬ nI (E k) = 10 := fun z => e10 ((bt_e10 (by omega)).mp z)
      obtain ⟨_, q, hq, eq, sq, _⟩ := h.2.2.2 (L - 1) (by omega)
      have il := bt_ix7 (q := L - 1) (by omega)
      have iq := bt_ix48 hq
      have Nq : bt_N st (nI q) := ⟨q, hq, rfl, sq⟩
      by_cases d0 : dr q = 0
      · refine ⟨-3, L, tr, Or.inl ⟨by decide, by decide⟩, hT, fun post n hn h => ?_, fun post n fr fn fc ey tn tm sn sc se hn hy ht h => ?_⟩
        · obtain ⟨n, rfl⟩ : ∃ n', n = n' + 1 := ⟨n - 1, by omega⟩
          refine stepX post n (-3) L tr (fun post2 h2 => br_f x10 ?_) (br_f (by decide) h)
          rw [bt_s1 (by omega), il.2.2.2.2.2.1, eq]
          refine ⟨il.2.2.2.2.1, nm_e ⟨iq.2.2.2.2.1, br_t ?_ h2⟩⟩
          rw [iq.2.2.2.2.2.1]; exact d0
        · obtain ⟨n, rfl⟩ : ∃ n', n = n' + 1 := ⟨n - 1, by omega⟩
          refine br_f nk ⟨ik.2.2.2.2.1, ?_⟩
          rw [ik.2.2.2.2.2.1, hy k (by omega), bt_s1 (by omega), il.2.2.2.2.2.1, ← (ht.2.2.2 (L - 1) (by omega)).1, eq]
          refine br_f x10 ⟨il.2.2.2.2.1, nm_e ⟨iq.2.2.2.2.1, br_t ?_ (h _ _ _ _ _ ht)⟩⟩
          rw [iq.2.2.2.2.2.1]; exact d0
      · obtain ⟨c, c1, c5, hv, _, _, hS⟩ := bt_view hC Nq
        have ho : ∀ k', bt_cf cc cv a (nI q) = some k' → k' < 6 := fun k' hk' => (hS k' hk').1
        -- X's step up to the child
        have stX : ∀ (post2 : Int32 → SX → Prop),
            ((bt_o (bt_lk (fun d => bt_ch st pa nm d (nI (E k))) (bt_vg mn a (nI q) (bt_cf cc cv a (nI q))) 0 c) = -1 → post2 (-2) (ls, nI L, ec, kc, st, dr, nm, pa, ve, sz, it, sm, hl, th, sp, tb, dl, dn, cc, cv, mn, mc, oc, on, om, op, tr, el, cm)) ∧
             (¬ bt_o (bt_lk (fun d => bt_ch st pa nm d (nI (E k))) (bt_vg mn a (nI q) (bt_cf cc cv a (nI q))) 0 c) = -1 →
               ((nI L = 7 → post2 (-4) (ls, nI L, ec, kc, st, dr, nm, pa, ve, sz, it, sm, hl, th, sp, tb, dl, dn, cc, cv, mn, mc, oc, on, om, op, tr, el, cm)) ∧ (¬ nI L = 7 → vp_in (nI L) 7 ∧ ∀ tr2, tr2 = upd tr (nI L).toNatClampNeg (bt_o (bt_lk (fun d => bt_ch st pa nm d (nI (E k))) (bt_vg mn a (nI q) (bt_cf cc cv a (nI q))) 0 c)) → ∀ L2, L2 = nI L + 1 → post2 0 (ls, L2, ec, kc, st, dr, nm, pa, ve, sz, it, sm, hl, th, sp, tb, dl, dn, cc, cv, mn, mc, oc, on, om, op, tr2, el, cm))))) →
            wpX_step post2 (ls, nI L, ec, kc, st, dr, nm, pa, ve, sz, it, sm, hl, th, sp, tb, dl, dn, cc, cv, mn, mc, oc, on, om, op, tr, el, cm) (nI a) (nI (E k)) := by
          intro post2 h2
          refine br_f x10 ?_
          rw [bt_s1 (by omega), il.2.2.2.2.2.1, eq]
          refine ⟨il.2.2.2.2.1, nm_e ⟨iq.2.2.2.2.1, br_f ?_ (xx_coverOf ha (bt_Cc hC) (xx_lookUp ha c5 hv ho h2))⟩⟩
          rw [iq.2.2.2.2.2.1]; exact d0
        -- Y's walk up to the child
        have stY : ∀ (post : Int32 → SY → Prop) (n : Nat) (fr : Int32) (fn fc ey tn tm sn sc : Nat → Int32) (se : Int32), (∀ k, k < K → ey k = nI (E k)) → bt_tr st nm tr tn tm L →
            (∀ sn sc se, ((0 ≤ bt_o (bt_lk (fun d => bt_ch st pa nm d (nI (E k))) (bt_vg mn a (nI q) (bt_cf cc cv a (nI q))) 0 c) →
                ((nI L = 7 → post (-4) (ls, es, nI L, se, fr, st, nm, pa, ve, sz, sm, it, dr, th, sY, tY, dl, dy, dm, vc, ms, me, cr, hd, hN, ps, la, ey, tn, tm, sn, sc, fn, fc)) ∧ (¬ nI L = 7 → vp_in (nI L) 7 ∧ ∀ tn2, tn2 = upd tn (nI L).toNatClampNeg (bt_o (bt_lk (fun d => bt_ch st pa nm d (nI (E k))) (bt_vg mn a (nI q) (bt_cf cc cv a (nI q))) 0 c)) →
                  (vp_in (nI k) 6 ∧ vp_in (nI L) 7 ∧ ∀ tm2, tm2 = upd tm (nI L).toNatClampNeg (ey (nI k).toNatClampNeg) → ∀ L2, L2 = nI L + 1 → ∀ k2, k2 = nI k + 1 → wY_evaluate_97 post (nI p) lv n k2 ls es L2 se fr st nm pa ve sz sm it dr th sY tY dl dy dm vc ms me cr hd hN ps la ey tn2 tm2 sn sc fn fc)))) ∧
              (¬ 0 ≤ bt_o (bt_lk (fun d => bt_ch st pa nm d (nI (E k))) (bt_vg mn a (nI q) (bt_cf cc cv a (nI q))) 0 c) → post (-2) (ls, es, nI L, se, fr, st, nm, pa, ve, sz, sm, it, dr, th, sY, tY, dl, dy, dm, vc, ms, me, cr, hd, hN, ps, la, ey, tn, tm, sn, sc, fn, fc)))) →
            wY_evaluate_97 post (nI p) lv (n + 1) (nI k) ls es (nI L) se fr st nm pa ve sz sm it dr th sY tY dl dy dm vc ms me cr hd hN ps la ey tn tm sn sc fn fc := by
          intro post n fr fn fc ey tn tm sn sc se hy ht h2
          refine br_f nk ⟨ik.2.2.2.2.1, br_f ?_ ?_⟩
          · rw [ik.2.2.2.2.2.1, hy k (by omega)]; exact x10
          · rw [bt_s1 (by omega), il.2.2.2.2.2.1, ← (ht.2.2.2 (L - 1) (by omega)).1, eq]
            refine ⟨il.2.2.2.2.1, nm_e ⟨iq.2.2.2.2.1, br_f ?_ (yy_look hp hb sb hB hC Nq rfl hv c1 c5 (fun sn2 sc2 g1 _ _ => ⟨ik.2.2.2.2.1, ?_⟩))⟩⟩
            · rw [iq.2.2.2.2.2.1]; exact d0
            · have := h2 sn2 sc2 (nI c)
              refine yy_childSeen c5 g1 ?_
              rw [ik.2.2.2.2.2.1, hy k (by omega)] at this ⊢
              exact this
        cases lk : bt_lk (fun d => bt_ch st pa nm d (nI (E k))) (bt_vg mn a (nI q) (bt_cf cc cv a (nI q))) 0 c with
        | none =>
          rw [lk] at stX stY
          refine ⟨-2, L, tr, Or.inl ⟨by decide, by decide⟩, hT, fun post n hn h => ?_, fun post n fr fn fc ey tn tm sn sc se hn hy ht h => ?_⟩
          · obtain ⟨n, rfl⟩ : ∃ n', n = n' + 1 := ⟨n - 1, by omega⟩
            exact stepX post n (-2) L tr (fun post2 h2 => stX post2 (br_t rfl h2)) (br_f (by decide) h)
          · obtain ⟨n, rfl⟩ : ∃ n', n = n' + 1 := ⟨n - 1, by omega⟩
            exact stY post n fr fn fc ey tn tm sn sc se hy ht (fun sn sc se => br_f (by decide) (h _ _ _ _ _ ht))
        | some m =>
          rw [lk] at stX stY
          have hm : 3 ≤ m ∧ m < 48 ∧ st m = 1 ∧ nm m = nI (E k) := by
            refine bt_lk_in (Q := fun m => 3 ≤ m ∧ m < 48 ∧ st m = 1 ∧ nm m = nI (E k)) (fun y n hy => ?_) c 0 lk
            obtain ⟨u1, u2, u3, _⟩ := bt_f_s 45 3 hy
            exact ⟨u1, by omega, u3.1, u3.2.2⟩
          have im := bt_ix48 hm.2.1
          by_cases l7 : L = 7
          · have l7' : nI L = 7 := by rw [l7]; rfl
            refine ⟨-4, L, tr, Or.inl ⟨by decide, by decide⟩, hT, fun post n hn h => ?_, fun post n fr fn fc ey tn tm sn sc se hn hy ht h => ?_⟩
            · obtain ⟨n, rfl⟩ : ∃ n', n = n' + 1 := ⟨n - 1, by omega⟩
              exact stepX post n (-4) L tr (fun post2 h2 => stX post2 (br_f im.2.2.2.2.2.2 (br_t l7' h2))) (br_f (by decide) h)
            · obtain ⟨n, rfl⟩ : ∃ n', n = n' + 1 := ⟨n - 1, by omega⟩
              exact stY post n fr fn fc ey tn tm sn sc se hy ht (fun sn sc se => br_t im.2.1 (br_t l7' (h _ _ _ _ _ ht)))
          · have l7' : ¬ nI L = 7 := fun z => l7 ((bt_e7 (by omega)).mp z)
            have iL := bt_ix7 (q := L) (by omega)
            have sm1 : st m ≠ 0 := by rw [hm.2.2.1]; decide
            obtain ⟨r, L', tr', an, hT2, fX, fY⟩ := ih (k + 1) (upd tr L (nI m)) (L + 1) (by omega) ⟨_, _, bt_tr_u h l7 hm.2.1 sm1 rfl⟩
            refine ⟨r, L', tr', an, hT2, fun post n hn h => ?_, fun post n fr fn fc ey tn tm sn sc se hn hy ht h => ?_⟩
            · obtain ⟨n, rfl⟩ : ∃ n', n = n' + 1 := ⟨n - 1, by omega⟩
              refine stepX post n 0 (L + 1) (upd tr L (nI m)) (fun post2 h2 => stX post2 (br_f im.2.2.2.2.2.2 (br_f l7' ⟨iL.2.2.2.2.1, ?_⟩))) (br_t rfl (fX post n (by omega) h))
              rw [iL.2.2.2.2.2.1]
              exact nm_e (nm_r (nI_1 _) h2)
            · obtain ⟨n, rfl⟩ : ∃ n', n = n' + 1 := ⟨n - 1, by omega⟩
              refine stY post n fr fn fc ey tn tm sn sc se hy ht (fun sn sc se => br_t im.2.1 (br_f l7' ⟨iL.2.2.2.2.1, ?_⟩))
              rw [iL.2.2.2.2.2.1, ik.2.2.2.2.2.1, hy k (by omega)]
              exact nm_e ⟨ik.2.2.2.2.1, iL.2.2.2.2.1, nm_e (nm_r (nI_1 _) (nm_r (nI_1 _) (fY post n fr fn fc ey _ _ sn sc se (by omega) hy (bt_tr_u ht l7 hm.2.1 sm1 hm.2.2.2) h)))⟩
end
end
section
section
variable {ls tl ec kc : Int32} {st dr nm pa ve sz it sm hl th sp tb dl dn cc cv mn mc oc on om op tr el cm : Nat → Int32} {es tt se fr : Int32} {sY tY dy dm vc ms me cr hd hN ps la ey tn tm sn sc fn fc : Nat → Int32}
theorem yy_init_l {post : Int32 → SY → Prop} {p L NN : Nat} {x lv : Int32} {gN gM : Nat → Int32} (hp : p < 4)
    (g1 : x < 0 → ∀ j, gN j = 0 ∧ gM j = 0) (g2 : ¬ x < 0 → ∀ j, gN j = dy (7 * p + j) ∧ gM j = dm (7 * p + j))
    (h : ∀ tn2 tm2 : Nat → Int32, (∀ j, j < 7 → tn2 j = gN j ∧ tm2 j = gM j) → wY_evaluate_97 post (nI p) lv NN (nI 0) ls es (nI L) se fr st nm pa ve sz sm it dr th sY tY dl dy dm vc ms me cr hd hN ps la ey tn2 tm2 sn sc fn fc) :
    ∀ (e i n : Nat) (tn tm : Nat → Int32), i + e = 7 → e < n → (∀ j, j < i → tn j = gN j ∧ tm j = gM j) → wY_evaluate_27 post (nI p) x lv ls es (nI L) se fr n (nI i) st nm pa ve sz sm it dr th sY tY dl dy dm vc ms me cr hd hN ps la ey tn tm sn sc fn fc := by
  intro e
  induction e with
  | zero =>
    intro i n tn tm hi hn hj
    obtain ⟨n, rfl⟩ : ∃ n', n = n' + 1 := ⟨n - 1, by omega⟩
    have : i = 7 := by omega
    subst this
    exact br_t (by decide) ⟨NN, h tn tm hj⟩
  | succ e ih =>
    intro i n tn tm hi hn hj
    obtain ⟨n, rfl⟩ : ∃ n', n = n' + 1 := ⟨n - 1, by omega⟩
    have ix := bt_ix7 (q := i) (by omega)
    have iy := bt_ix28 (q := 7 * p + i) (by omega)
    have e7 : 7 * nI p + nI i = nI (7 * p + i) := by rw [bt_7m, nI_add]
    have nx : ∀ y z : Int32, y = gN i → z = gM i → wY_evaluate_27 post (nI p) x lv ls es (nI L) se fr n (nI (i + 1)) st nm pa ve sz sm it dr th sY tY dl dy dm vc ms me cr hd hN ps la ey (upd tn i y) (upd tm i z) sn sc fn fc := by
      intro y z hy hz
      refine ih (i + 1) n _ _ (by omega) (by omega) (fun j h => ?_)
      by_cases w : j = i
      · rw [w, pk_us, pk_us]; exact ⟨hy, hz⟩
      · rw [pk_un w, pk_un w]; exact hj j (by omega)
    refine br_f ix.2.2.2.1 ?_
    by_cases z : x < 0
    · refine br_f (bt_neg0 z) ⟨ix.2.2.2.2.1, nm_e (br_f (bt_neg0 z) ⟨ix.2.2.2.2.1, nm_e (nm_r (nI_1 _) ?_)⟩)⟩
      rw [ix.2.2.2.2.2.1]
      exact nx 0 0 (g1 z i).1.symm (g1 z i).2.symm
    · have z' : 0 ≤ x := Int32.not_lt.mp z
      rw [e7, iy.2.2.2.2.2.1]
      refine br_t z' ⟨iy.2.2.2.2.1, ix.2.2.2.2.1, nm_e (br_t z' ?_)⟩
      rw [e7, iy.2.2.2.2.2.1]
      refine ⟨iy.2.2.2.2.1, ix.2.2.2.2.1, nm_e (nm_r (nI_1 _) ?_)⟩
      rw [ix.2.2.2.2.2.1]
      exact nx _ _ (g2 z i).1.symm (g2 z i).2.symm
theorem ev_t {p a b K D mX mY : Nat} {xX xY lv : Int32} (hp : p < 4) (ha : a < 4) (hb : b < 4) (sa : sp p = nI a) (sb : sY p = nI b) (hB : ∀ i, bt_B (cr i))
    (hC : ∀ k, k < 6 → bt_C st cc cv mn mc vc ms me cr (6 * a + k) (6 * b + k)) (ht : th p ≠ 0) (hT : bt_T st nm dl dn dy dm p) (s0 : st 0 ≠ 0)
    (rX : bt_rw xX mX) (dX : bt_dg mX K) (gX : bt_g mX K) (rY : bt_rw xY mY) (dY : bt_dg mY D) (gY : bt_g mY D) (sg : xX < 0 ↔ xY < 0)
    (hlv : nI D - lv = nI K) (hE : ∀ j, j < K → mX / 11 ^ j % 11 = mY / 11 ^ (D - 1 - (K - 1 - j)) % 11) (KD : K ≤ D) :
    ∃ (r : Int32) (L' : Nat) (tr' el2 : Nat → Int32), bt_an st tr' r L' ∧ (∃ tn tm, bt_tr st nm tr' tn tm L') ∧
      (∀ post : Int32 → SX → Prop, post r (ls, nI L', nI K, kc, st, dr, nm, pa, ve, sz, it, sm, hl, th, sp, tb, dl, dn, cc, cv, mn, mc, oc, on, om, op, tr', el2, cm) → wpX_evaluate post (ls, tl, ec, kc, st, dr, nm, pa, ve, sz, it, sm, hl, th, sp, tb, dl, dn, cc, cv, mn, mc, oc, on, om, op, tr, el, cm) (nI p) xX) ∧
      (∀ (post : Int32 → SY → Prop) (es tt se fr : Int32) (ey tn tm sn sc fn fc : Nat → Int32), (∀ (ey2 tn2 tm2 sn2 sc2 : Nat → Int32) (se2 : Int32), (∀ k, k < D → ey2 k = nI (mY / 11 ^ (D - 1 - k) % 11)) → bt_tr st nm tr' tn2 tm2 L' → post r (ls, nI D, nI L', se2, fr, st, nm, pa, ve, sz, sm, it, dr, th, sY, tY, dl, dy, dm, vc, ms, me, cr, hd, hN, ps, la, ey2, tn2, tm2, sn2, sc2, fn, fc)) →
        wpY_evaluate post (ls, es, tt, se, fr, st, nm, pa, ve, sz, sm, it, dr, th, sY, tY, dl, dy, dm, vc, ms, me, cr, hd, hN, ps, la, ey, tn, tm, sn, sc, fn, fc) (nI p) xY lv) := by
  obtain ⟨L0, l1, l7, el0, d0, hf⟩ := hT
  have ip := bt_ix4 hp
  -- the trail's beginning
  have hL : ∃ L, 1 ≤ L ∧ L ≤ L0 ∧ (xX < 0 → L = 1) ∧ (¬ xX < 0 → L = L0) := by
    by_cases z : xX < 0
    · exact ⟨1, by omega, by omega, fun _ => rfl, fun y => absurd z y⟩
    · exact ⟨L0, l1, by omega, fun y => absurd y z, fun _ => rfl⟩
  obtain ⟨L, L1, LL, hL1, hL2⟩ := hL
  obtain ⟨tr2, t2, beg⟩ := xx_begin (ls := ls) (tl := tl) (ec := ec) (kc := kc) (st := st) (dr := dr) (nm := nm) (pa := pa) (ve := ve) (sz := sz) (it := it) (sm := sm) (hl := hl) (th := th) (sp := sp) (tb := tb) (dl := dl) (dn := dn) (cc := cc) (cv := cv) (mn := mn) (mc := mc) (oc := oc) (on := on) (om := om) (op := op) (tr := tr) (el := el) (cm := cm) (x := xX) hp (show L ≤ 7 by omega) hL1 (fun z => by rw [hL2 z]; exact el0)
  obtain ⟨el2, e2, rea⟩ := xx_readE (ls := ls) (tl := nI L) (ec := ec) (kc := kc) (st := st) (dr := dr) (nm := nm) (pa := pa) (ve := ve) (sz := sz) (it := it) (sm := sm) (hl := hl) (th := th) (sp := sp) (tb := tb) (dl := dl) (dn := dn) (cc := cc) (cv := cv) (mn := mn) (mc := mc) (oc := oc) (on := on) (om := om) (op := op) (tr := tr2) (el := el) (cm := cm) rX dX gX.1
  have trs : ∀ tn2 tm2 : Nat → Int32, (∀ j, j < L → tn2 j = dn (7 * p + j) ∧ (1 ≤ j → tm2 j = dm (7 * p + j))) → bt_tr st nm tr2 tn2 tm2 L := by
    intro tn2 tm2 h
    refine ⟨L1, by omega, (t2 0 (by omega)).trans d0, fun i hi => ?_⟩
    obtain ⟨_, n, hn, en, zn, fn⟩ := hf i (by omega)
    refine ⟨(t2 i hi).trans (h i hi).1.symm, n, hn, (t2 i hi).trans en, zn, fun h1 => ?_⟩
    rw [(h i hi).2 h1]; exact fn h1
  obtain ⟨r, L', tr', an, hT2, fX, fY⟩ := ev_l (ls := ls) (ec := nI K) (kc := kc) (st := st) (dr := dr) (nm := nm) (pa := pa) (ve := ve) (sz := sz) (it := it) (sm := sm) (hl := hl) (th := th) (sp := sp) (tb := tb) (dl := dl) (dn := dn) (cc := cc) (cv := cv) (mn := mn) (mc := mc) (oc := oc) (on := on) (om := om) (op := op) (el := el2) (cm := cm) (es := nI D) (sY := sY) (tY := tY) (dy := dy) (dm := dm) (vc := vc) (ms := ms) (me := me) (cr := cr) (hd := hd) (hN := hN) (ps := ps) (la := la) (E := fun k => mY / 11 ^ (D - 1 - k) % 11) (lv := lv) hp ha hb sa sb hB hC gX.1
    (fun k _ => by omega) (fun j hj => by rw [e2 j hj, hE j hj]) hlv K 0 tr2 L (by omega) ⟨_, _, trs (fun j => dn (7 * p + j)) (fun j => dm (7 * p + j)) (fun j _ => ⟨rfl, fun _ => rfl⟩)⟩
  refine ⟨r, L', tr', el2, an, hT2, fun post h => ?_, fun post es tt se fr ey tn tm sn sc fn fc h => ?_⟩
  · unfold wpX_evaluate
    exact xx_isP1 hp ht (br_f (by decide) (xx_path rX dX (fun _ => br_f (by decide) (beg _ (rea _ (nm_e ⟨K + 1, fX post (K + 1) (by omega) h⟩)))) (fun z => absurd gX z)))
  · unfold wpY_evaluate
    refine yy_split rY dY (fun _ ey2 hey => ?_) (fun z => absurd gY z)
    have fin : ∀ gN gM : Nat → Int32, (∀ j, j < L → gN j = dn (7 * p + j) ∧ (1 ≤ j → gM j = dm (7 * p + j))) → ∀ tn2 tm2 : Nat → Int32, (∀ j, j < 7 → tn2 j = gN j ∧ tm2 j = gM j) →
        wY_evaluate_97 post (nI p) lv (K + 1) (nI 0) ls (nI D) (nI L) se fr st nm pa ve sz sm it dr th sY tY dl dy dm vc ms me cr hd hN ps la ey2 tn2 tm2 sn sc fn fc := by
      intro gN gM hg tn2 tm2 h7
      refine fY post (K + 1) fr fn fc ey2 tn2 tm2 sn sc se (by omega) (fun k hk => hey k (by omega)) (trs tn2 tm2 (fun j hj => ?_)) (fun tn3 tm3 sn3 sc3 se3 h3 => h ey2 tn3 tm3 sn3 sc3 se3 hey h3)
      rw [(h7 j (by omega)).1, (h7 j (by omega)).2]; exact hg j hj
    by_cases z : xX < 0
    · have zY := sg.mp z
      have eL := hL1 z
      refine br_f (bt_neg0 zY) ⟨8, ?_⟩
      have := yy_init_l (post := post) (p := p) (L := L) (x := xY) (lv := lv) (gN := fun _ => 0) (gM := fun _ => 0) hp (fun _ _ => ⟨rfl, rfl⟩) (fun y => absurd zY y)
        (fin (fun _ => 0) (fun _ => 0) (fun j hj => by
          have : j = 0 := by omega
          subst this
          exact ⟨d0.symm, fun y => by omega⟩)) 7 0 8 tn tm rfl (by omega) (fun j hj => by omega)
      rw [eL] at this
      exact this
    · have zY : ¬ xY < 0 := fun y => z (sg.mpr y)
      have eL := hL2 z
      refine br_t (Int32.not_lt.mp zY) ⟨ip.2.2.2.2.1, nm_r (show _ = nI L from ?_) ⟨8, ?_⟩⟩
      · rw [ip.2.2.2.2.2.1, eL]; exact el0
      · exact yy_init_l (post := post) (p := p) (L := L) (x := xY) (lv := lv) (gN := fun j => dy (7 * p + j)) (gM := fun j => dm (7 * p + j)) hp (fun y => absurd y zY) (fun _ _ => ⟨rfl, rfl⟩)
          (fin _ _ (fun j hj => ⟨(hf j (by omega)).1.symm, fun _ => rfl⟩)) 7 0 8 tn tm rfl (by omega) (fun j hj => by omega)
end
end
section
def bt_hk (cc cv mn : Nat → Int32) (i x : Nat) : Prop := ∃ c, 1 ≤ c ∧ c ≤ 5 ∧ cc i = nI c ∧ (cv i = nI x ∨ ∃ m, m < c ∧ mn (5 * i + m) = nI x)
def bt_hj (oc on : Nat → Int32) (i x : Nat) : Prop := ∃ c, c ≤ 5 ∧ oc i = nI c ∧ ∃ m, m < c ∧ on (5 * i + m) = nI x
def bt_mk (hl : Nat → Int32) (P : Nat → Prop) : Prop := ∀ x, x < 48 → (¬ hl x = 0 ↔ P x)
theorem bt_mk_s {hl : Nat → Int32} {q : Nat} {Q Q' : Nat → Prop} (h : bt_mk hl Q) (hQ : ∀ x, x < 48 → (Q' x ↔ Q x ∨ x = q)) : bt_mk (upd hl q (vp_nar .boolean 1)) Q' := by
  intro x hx
  rw [hQ x hx, bt_n1]
  by_cases e : x = q
  · rw [e, pk_us]; exact ⟨fun _ => Or.inr rfl, fun _ => by decide⟩
  · rw [pk_un e]
    exact ⟨fun z => Or.inl ((h x hx).mp z), fun z => z.elim (h x hx).mpr (fun y => absurd y e)⟩
theorem bt_mk_c {hl : Nat → Int32} {Q Q' : Nat → Prop} (h : bt_mk hl Q) (hQ : ∀ x, x < 48 → (Q x ↔ Q' x)) : bt_mk hl Q' :=
  fun x hx => (h x hx).trans (hQ x hx)
/-- one more of a run of numbers -/
theorem bt_ex_s {P : Prop} {f : Nat → Int32} {i b q x : Nat} (e : f (b + i) = nI q) (hq : q < 48) (hx : x < 48) :
    (P ∨ ∃ j, j < i + 1 ∧ f (b + j) = nI x) ↔ (P ∨ ∃ j, j < i ∧ f (b + j) = nI x) ∨ x = q := by
  constructor
  · rintro (p | ⟨j, hj, ej⟩)
    · exact Or.inl (Or.inl p)
    · by_cases w : j = i
      · subst w
        exact Or.inr (bt_inj (by omega) (by omega) (ej.symm.trans e))
      · exact Or.inl (Or.inr ⟨j, by omega, ej⟩)
  · rintro ((p | ⟨j, hj, ej⟩) | rfl)
    · exact Or.inl p
    · exact Or.inr ⟨j, by omega, ej⟩
    · exact Or.inr ⟨i, by omega, e⟩
theorem bt_ex_0 {P : Prop} {f : Nat → Int32} {b x : Nat} : P ↔ (P ∨ ∃ j, j < 0 ∧ f (b + j) = nI x) :=
  ⟨Or.inl, fun z => z.elim id (fun ⟨j, hj, _⟩ => by omega)⟩
section
variable {ls tl ec kc : Int32} {st dr nm pa ve sz it sm hl th sp tb dl dn cc cv mn mc oc on om op tr el cm : Nat → Int32} {post : SX → Prop} {P : Nat → Prop} {s t : Nat → Nat}
theorem xx_hd_l {p L : Nat} (hp : p < 4) (hL : L ≤ 7) (el0 : dl p = nI L) (hn : ∀ i, i < L → ∃ n, n < 48 ∧ dn (7 * p + i) = nI n)
    (h : ∀ hl2, bt_mk hl2 (fun x => P x ∨ ∃ j, j < L ∧ dn (7 * p + j) = nI x) → post (ls, tl, ec, kc, st, dr, nm, pa, ve, sz, it, sm, hl2, th, sp, tb, dl, dn, cc, cv, mn, mc, oc, on, om, op, tr, el, cm)) :
    ∀ (e i n : Nat) (hl : Nat → Int32), i + e = L → e < n → bt_mk hl (fun x => P x ∨ ∃ j, j < i ∧ dn (7 * p + j) = nI x) → wX_holdDot_2 post (nI p) ls tl ec kc n (nI i) st dr nm pa ve sz it sm hl th sp tb dl dn cc cv mn mc oc on om op tr el cm := by
  have ip := bt_ix4 hp
  intro e
  induction e with
  | zero =>
    intro i n hl hi hn' hm
    obtain ⟨n, rfl⟩ : ∃ n', n = n' + 1 := ⟨n - 1, by omega⟩
    have : i = L := by omega
    subst this
    refine ⟨ip.2.2.2.2.1, br_t ?_ (h _ hm)⟩
    rw [ip.2.2.2.2.2.1, el0]; exact Int32.le_refl _
  | succ e ih =>
    intro i n hl hi hn' hm
    obtain ⟨n, rfl⟩ : ∃ n', n = n' + 1 := ⟨n - 1, by omega⟩
    have iy := bt_ix28 (q := 7 * p + i) (by omega)
    have e7 : nI p * 7 + nI i = nI (7 * p + i) := by rw [bt_m7, nI_add]
    obtain ⟨q, hq, eq⟩ := hn i (by omega)
    have iq := bt_ix48 hq
    refine ⟨ip.2.2.2.2.1, ?_⟩
    rw [ip.2.2.2.2.2.1, el0, e7, iy.2.2.2.2.2.1, eq, iq.2.2.2.2.2.1]
    exact br_f (nI_ge (by omega) (by omega)) ⟨iy.2.2.2.2.1, iq.2.2.2.2.1, nm_e (nm_r (nI_1 _) (ih (i + 1) n _ (by omega) (by omega) (bt_mk_s hm (fun x hx => bt_ex_s eq hq hx))))⟩
theorem xx_hd {p L : Nat} (hp : p < 4) (hL : L ≤ 7) (el0 : dl p = nI L) (hn : ∀ i, i < L → ∃ n, n < 48 ∧ dn (7 * p + i) = nI n) (hm : bt_mk hl P)
    (h : ∀ hl2, bt_mk hl2 (fun x => P x ∨ bt_hd dl dn p x) → post (ls, tl, ec, kc, st, dr, nm, pa, ve, sz, it, sm, hl2, th, sp, tb, dl, dn, cc, cv, mn, mc, oc, on, om, op, tr, el, cm)) : wpX_holdDot post (ls, tl, ec, kc, st, dr, nm, pa, ve, sz, it, sm, hl, th, sp, tb, dl, dn, cc, cv, mn, mc, oc, on, om, op, tr, el, cm) (nI p) := by
  refine ⟨L + 1, xx_hd_l hp hL el0 hn (fun hl2 h2 => h hl2 (bt_mk_c h2 (fun x hx => ?_))) L 0 (L + 1) hl (by omega) (by omega) (bt_mk_c hm (fun x hx => bt_ex_0))⟩
  constructor
  · rintro (z | ⟨j, hj, ej⟩)
    · exact Or.inl z
    · exact Or.inr ⟨j, L, hj, hL, el0, ej⟩
  · rintro (z | ⟨j, L2, hj, hL2, el2, ej⟩)
    · exact Or.inl z
    · have : L2 = L := bt_inj (by omega) (by omega) (el2.symm.trans el0)
      exact Or.inr ⟨j, by omega, ej⟩
theorem xx_hs_a {J : Int32 → (Nat → Int32) → (Nat → Int32) → (Nat → Int32) → (Nat → Int32) → (Nat → Int32) → (Nat → Int32) → (Nat → Int32) → (Nat → Int32) → (Nat → Int32) → (Nat → Int32) → (Nat → Int32) → (Nat → Int32) → (Nat → Int32) → (Nat → Int32) → (Nat → Int32) → (Nat → Int32) → (Nat → Int32) → (Nat → Int32) → (Nat → Int32) → (Nat → Int32) → (Nat → Int32) → (Nat → Int32) → (Nat → Int32) → (Nat → Int32) → (Nat → Int32) → Prop} {i c : Nat} {x1 : Int32} (hi : i < 24) (hc : c ≤ 5) (ec0 : cc i = nI c) (hn : ∀ m, m < c → ∃ n, n < 48 ∧ mn (5 * i + m) = nI n)
    (h : ∀ hl2, bt_mk hl2 (fun x => P x ∨ ∃ m, m < c ∧ mn (5 * i + m) = nI x) → J (nI (i + 1)) st dr nm pa ve sz it sm hl2 th sp tb dl dn cc cv mn mc oc on om op tr el cm) :
    ∀ (e m n : Nat) (hl : Nat → Int32), m + e = c → e < n → bt_mk hl (fun x => P x ∨ ∃ j, j < m ∧ mn (5 * i + j) = nI x) → wX_holdSpace_38 post J x1 (nI i) ls tl ec kc n (nI m) st dr nm pa ve sz it sm hl th sp tb dl dn cc cv mn mc oc on om op tr el cm := by
  have ix := bt_ix24 hi
  intro e
  induction e with
  | zero =>
    intro m n hl hi2 hn' hm
    obtain ⟨n, rfl⟩ : ∃ n', n = n' + 1 := ⟨n - 1, by omega⟩
    have : m = c := by omega
    subst this
    refine ⟨ix.2.2.2.2.1, br_t ?_ (nm_r (nI_1 _) (h _ hm))⟩
    rw [ix.2.2.2.2.2.1, ec0]; exact Int32.le_refl _
  | succ e ih =>
    intro m n hl hi2 hn' hm
    obtain ⟨n, rfl⟩ : ∃ n', n = n' + 1 := ⟨n - 1, by omega⟩
    have iy := bt_ix120 (q := 5 * i + m) (by omega)
    have e5 : nI i * 5 + nI m = nI (5 * i + m) := by rw [bt_m5, nI_add]
    obtain ⟨q, hq, eq⟩ := hn m (by omega)
    have iq := bt_ix48 hq
    refine ⟨ix.2.2.2.2.1, ?_⟩
    rw [ix.2.2.2.2.2.1, ec0, e5, iy.2.2.2.2.2.1, eq, iq.2.2.2.2.2.1]
    exact br_f (nI_ge (by omega) (by omega)) ⟨iy.2.2.2.2.1, iq.2.2.2.2.1, nm_e (nm_r (nI_1 _) (ih (m + 1) n _ (by omega) (by omega) (bt_mk_s hm (fun x hx => bt_ex_s eq hq hx))))⟩
/-- the covers of space a are in order -/
def bt_wC (cc cv mn : Nat → Int32) (a : Nat) : Prop := ∀ k, k < 6 → cc (6 * a + k) = 0 ∨ ∃ c, 1 ≤ c ∧ c ≤ 5 ∧ cc (6 * a + k) = nI c ∧ (∃ n, n < 48 ∧ cv (6 * a + k) = nI n) ∧ ∀ m, m < c → ∃ n, n < 48 ∧ mn (5 * (6 * a + k) + m) = nI n
theorem xx_hs_l {a : Nat} (ha : a < 4) (hw : bt_wC cc cv mn a)
    (h : ∀ hl2, bt_mk hl2 (fun x => P x ∨ bt_hs cc cv mn a x) → post (ls, tl, ec, kc, st, dr, nm, pa, ve, sz, it, sm, hl2, th, sp, tb, dl, dn, cc, cv, mn, mc, oc, on, om, op, tr, el, cm)) :
    ∀ (e k n : Nat) (hl : Nat → Int32), k + e = 6 → e < n → bt_mk hl (fun x => P x ∨ ∃ k', k' < k ∧ bt_hk cc cv mn (6 * a + k') x) → wX_holdSpace_5 post (nI a) ls tl ec kc n (nI (6 * a + k)) st dr nm pa ve sz it sm hl th sp tb dl dn cc cv mn mc oc on om op tr el cm := by
  have lim : (nI a + 1) * 6 = nI (6 * a + 6) := by rw [nI_1, bt_m6]; exact congrArg nI (by omega)
  intro e
  induction e with
  | zero =>
    intro k n hl hk hn' hm
    obtain ⟨n, rfl⟩ : ∃ n', n = n' + 1 := ⟨n - 1, by omega⟩
    have : k = 6 := by omega
    subst this
    refine br_t ?_ (h _ hm)
    rw [lim]; exact Int32.le_refl _
  | succ e ih =>
    intro k n hl hk hn' hm
    obtain ⟨n, rfl⟩ : ∃ n', n = n' + 1 := ⟨n - 1, by omega⟩
    have ix := bt_ix24 (q := 6 * a + k) (by omega)
    refine br_f ?_ ⟨ix.2.2.2.2.1, ?_⟩
    · rw [lim]; exact nI_ge (by omega) (by omega)
    rcases hw k (by omega) with z | ⟨c, c1, c5, z, ⟨q, hq, eq⟩, hn⟩
    · rw [ix.2.2.2.2.2.1, z]
      refine br_t (by decide) ⟨1, xx_hs_a (P := fun x => P x ∨ ∃ k', k' < k ∧ bt_hk cc cv mn (6 * a + k') x) (c := 0) (by omega) (by omega) z (fun m hm => by omega) (fun hl2 h2 => ih (k + 1) n hl2 (by omega) (by omega) (bt_mk_c h2 (fun x hx => ?_))) 0 0 1 hl rfl (by omega) (bt_mk_c hm (fun x hx => bt_ex_0))⟩
      constructor
      · rintro ((w | ⟨k', hk', w⟩) | ⟨m, hm, _⟩)
        · exact Or.inl w
        · exact Or.inr ⟨k', by omega, w⟩
        · omega
      · rintro (w | ⟨k', hk', w⟩)
        · exact Or.inl (Or.inl w)
        · by_cases y : k' = k
          · subst y
            obtain ⟨c, c1, _, e0, _⟩ := w
            exact absurd (z.symm.trans e0) (fun y => nI_ne0 (by omega) (by omega) y.symm)
          · exact Or.inl (Or.inr ⟨k', by omega, w⟩)
    · have iq := bt_ix48 hq
      have nz : ¬ nI c ≤ 0 := nI_nle (by omega) (by omega)
      rw [ix.2.2.2.2.2.1, z, eq, iq.2.2.2.2.2.1]
      refine br_f nz ⟨ix.2.2.2.2.1, iq.2.2.2.2.1, nm_e ⟨c + 1, xx_hs_a (P := fun x => (P x ∨ ∃ k', k' < k ∧ bt_hk cc cv mn (6 * a + k') x) ∨ x = q) (c := c) (by omega) c5 z hn (fun hl2 h2 => ih (k + 1) n hl2 (by omega) (by omega) (bt_mk_c h2 (fun x hx => ?_))) c 0 (c + 1) _ (by omega) (by omega) (bt_mk_c (bt_mk_s hm (fun x hx => Iff.rfl)) (fun x hx => bt_ex_0))⟩⟩
      constructor
      · rintro (((w | ⟨k', hk', w⟩) | w) | ⟨m, hm, w⟩)
        · exact Or.inl w
        · exact Or.inr ⟨k', by omega, w⟩
        · exact Or.inr ⟨k, by omega, c, c1, c5, z, Or.inl (by rw [w]; exact eq)⟩
        · exact Or.inr ⟨k, by omega, c, c1, c5, z, Or.inr ⟨m, hm, w⟩⟩
      · rintro (w | ⟨k', hk', w⟩)
        · exact Or.inl (Or.inl (Or.inl w))
        · by_cases y : k' = k
          · subst y
            obtain ⟨c2, c12, c52, e0, w⟩ := w
            have ecc : c2 = c := bt_inj (by omega) (by omega) (e0.symm.trans z)
            subst ecc
            rcases w with w | w
            · exact Or.inl (Or.inr (bt_inj (by omega) (by omega) (w.symm.trans eq)))
            · exact Or.inr w
          · exact Or.inl (Or.inl (Or.inr ⟨k', by omega, w⟩))
theorem xx_hs {a : Nat} (ha : a < 4) (hw : bt_wC cc cv mn a) (hm : bt_mk hl P)
    (h : ∀ hl2, bt_mk hl2 (fun x => P x ∨ bt_hs cc cv mn a x) → post (ls, tl, ec, kc, st, dr, nm, pa, ve, sz, it, sm, hl2, th, sp, tb, dl, dn, cc, cv, mn, mc, oc, on, om, op, tr, el, cm)) : wpX_holdSpace post (ls, tl, ec, kc, st, dr, nm, pa, ve, sz, it, sm, hl, th, sp, tb, dl, dn, cc, cv, mn, mc, oc, on, om, op, tr, el, cm) (nI a) :=
  nm_r (bt_m6 a) ⟨7, xx_hs_l ha hw h 6 0 7 hl rfl (by omega) (bt_mk_c hm (fun x hx => ⟨Or.inl, fun z => z.elim id (fun ⟨j, hj, _⟩ => by omega)⟩))⟩
theorem xx_ht_a {J : Int32 → (Nat → Int32) → (Nat → Int32) → (Nat → Int32) → (Nat → Int32) → (Nat → Int32) → (Nat → Int32) → (Nat → Int32) → (Nat → Int32) → (Nat → Int32) → (Nat → Int32) → (Nat → Int32) → (Nat → Int32) → (Nat → Int32) → (Nat → Int32) → (Nat → Int32) → (Nat → Int32) → (Nat → Int32) → (Nat → Int32) → (Nat → Int32) → (Nat → Int32) → (Nat → Int32) → (Nat → Int32) → (Nat → Int32) → (Nat → Int32) → (Nat → Int32) → Prop} {i c : Nat} {x1 : Int32} (hi : i < 16) (hc : c ≤ 5) (ec0 : oc i = nI c) (hn : ∀ m, m < c → ∃ n, n < 48 ∧ on (5 * i + m) = nI n)
    (h : ∀ hl2, bt_mk hl2 (fun x => P x ∨ ∃ m, m < c ∧ on (5 * i + m) = nI x) → J (nI (i + 1)) st dr nm pa ve sz it sm hl2 th sp tb dl dn cc cv mn mc oc on om op tr el cm) :
    ∀ (e m n : Nat) (hl : Nat → Int32), m + e = c → e < n → bt_mk hl (fun x => P x ∨ ∃ j, j < m ∧ on (5 * i + j) = nI x) → wX_holdTable_15 post J x1 (nI i) ls tl ec kc n (nI m) st dr nm pa ve sz it sm hl th sp tb dl dn cc cv mn mc oc on om op tr el cm := by
  have ix := bt_ix16 hi
  intro e
  induction e with
  | zero =>
    intro m n hl hi2 hn' hm
    obtain ⟨n, rfl⟩ : ∃ n', n = n' + 1 := ⟨n - 1, by omega⟩
    have : m = c := by omega
    subst this
    refine ⟨ix.2.2.2.2.1, br_t ?_ (nm_r (nI_1 _) (h _ hm))⟩
    rw [ix.2.2.2.2.2.1, ec0]; exact Int32.le_refl _
  | succ e ih =>
    intro m n hl hi2 hn' hm
    obtain ⟨n, rfl⟩ : ∃ n', n = n' + 1 := ⟨n - 1, by omega⟩
    have iy := bt_ix80 (q := 5 * i + m) (by omega)
    have e5 : nI i * 5 + nI m = nI (5 * i + m) := by rw [bt_m5, nI_add]
    obtain ⟨q, hq, eq⟩ := hn m (by omega)
    have iq := bt_ix48 hq
    refine ⟨ix.2.2.2.2.1, ?_⟩
    rw [ix.2.2.2.2.2.1, ec0, e5, iy.2.2.2.2.2.1, eq, iq.2.2.2.2.2.1]
    exact br_f (nI_ge (by omega) (by omega)) ⟨iy.2.2.2.2.1, iq.2.2.2.2.1, nm_e (nm_r (nI_1 _) (ih (m + 1) n _ (by omega) (by omega) (bt_mk_s hm (fun x hx => bt_ex_s eq hq hx))))⟩
def bt_wD (oc on : Nat → Int32) (a : Nat) : Prop := ∀ k, k < 4 → ∃ c, c ≤ 5 ∧ oc (4 * a + k) = nI c ∧ ∀ m, m < c → ∃ n, n < 48 ∧ on (5 * (4 * a + k) + m) = nI n
theorem xx_ht_l {a : Nat} (ha : a < 4) (hw : bt_wD oc on a)
    (h : ∀ hl2, bt_mk hl2 (fun x => P x ∨ bt_ht oc on a x) → post (ls, tl, ec, kc, st, dr, nm, pa, ve, sz, it, sm, hl2, th, sp, tb, dl, dn, cc, cv, mn, mc, oc, on, om, op, tr, el, cm)) :
    ∀ (e k n : Nat) (hl : Nat → Int32), k + e = 4 → e < n → bt_mk hl (fun x => P x ∨ ∃ k', k' < k ∧ bt_hj oc on (4 * a + k') x) → wX_holdTable_4 post (nI a) ls tl ec kc n (nI (4 * a + k)) st dr nm pa ve sz it sm hl th sp tb dl dn cc cv mn mc oc on om op tr el cm := by
  have lim : (nI a + 1) * 4 = nI (4 * a + 4) := by rw [nI_1, bt_m4]; exact congrArg nI (by omega)
  intro e
  induction e with
  | zero =>
    intro k n hl hk hn' hm
    obtain ⟨n, rfl⟩ : ∃ n', n = n' + 1 := ⟨n - 1, by omega⟩
    have : k = 4 := by omega
    subst this
    refine br_t ?_ (h _ hm)
    rw [lim]; exact Int32.le_refl _
  | succ e ih =>
    intro k n hl hk hn' hm
    obtain ⟨n, rfl⟩ : ∃ n', n = n' + 1 := ⟨n - 1, by omega⟩
    refine br_f ?_ ?_
    · rw [lim]; exact nI_ge (by omega) (by omega)
    obtain ⟨c, c5, z, hn⟩ := hw k (by omega)
    refine ⟨c + 1, xx_ht_a (P := fun x => P x ∨ ∃ k', k' < k ∧ bt_hj oc on (4 * a + k') x) (c := c) (by omega) c5 z hn (fun hl2 h2 => ih (k + 1) n hl2 (by omega) (by omega) (bt_mk_c h2 (fun x hx => ?_))) c 0 (c + 1) hl (by omega) (by omega) (bt_mk_c hm (fun x hx => bt_ex_0))⟩
    constructor
    · rintro ((w | ⟨k', hk', w⟩) | ⟨m, hm, w⟩)
      · exact Or.inl w
      · exact Or.inr ⟨k', by omega, w⟩
      · exact Or.inr ⟨k, by omega, c, c5, z, m, hm, w⟩
    · rintro (w | ⟨k', hk', w⟩)
      · exact Or.inl (Or.inl w)
      · by_cases y : k' = k
        · subst y
          obtain ⟨c2, c52, e0, w⟩ := w
          have ecc : c2 = c := bt_inj (by omega) (by omega) (e0.symm.trans z)
          subst ecc
          exact Or.inr w
        · exact Or.inl (Or.inr ⟨k', by omega, w⟩)
theorem xx_ht {a : Nat} (ha : a < 4) (hw : bt_wD oc on a) (hm : bt_mk hl P)
    (h : ∀ hl2, bt_mk hl2 (fun x => P x ∨ bt_ht oc on a x) → post (ls, tl, ec, kc, st, dr, nm, pa, ve, sz, it, sm, hl2, th, sp, tb, dl, dn, cc, cv, mn, mc, oc, on, om, op, tr, el, cm)) : wpX_holdTable post (ls, tl, ec, kc, st, dr, nm, pa, ve, sz, it, sm, hl, th, sp, tb, dl, dn, cc, cv, mn, mc, oc, on, om, op, tr, el, cm) (nI a) :=
  nm_r (bt_m4 a) ⟨5, xx_ht_l ha hw h 4 0 5 hl rfl (by omega) (bt_mk_c hm (fun x hx => ⟨Or.inl, fun z => z.elim id (fun ⟨j, hj, _⟩ => by omega)⟩))⟩
/-- what X's sweep needs of the processes -/
def bt_wf (th dl sp tb dn cc cv mn oc on : Nat → Int32) (s t : Nat → Nat) : Prop := ∀ p, p < 4 → ¬ th p = 0 →
  sp p = nI (s p) ∧ s p < 4 ∧ tb p = nI (t p) ∧ t p < 4 ∧ (∃ L, L ≤ 7 ∧ dl p = nI L ∧ ∀ i, i < L → ∃ n, n < 48 ∧ dn (7 * p + i) = nI n) ∧ bt_wC cc cv mn (s p) ∧ bt_wD oc on (t p)
theorem xx_sw3_l {H : Nat → Prop} {st0 : Nat → Int32} (hm : bt_mk hl H) (h : ∀ st2, bt_sw st0 H st2 → post (ls, tl, ec, kc, st2, dr, nm, pa, ve, sz, it, sm, hl, th, sp, tb, dl, dn, cc, cv, mn, mc, oc, on, om, op, tr, el, cm)) :
    ∀ (e i n : Nat) (st : Nat → Int32), 3 ≤ i → i + e = 48 → e < n → (∀ j, (3 ≤ j ∧ j < i ∧ st0 j = 2 ∧ ¬ H j → st j = 0) ∧ (¬ (3 ≤ j ∧ j < i ∧ st0 j = 2 ∧ ¬ H j) → st j = st0 j)) → wX_freeWhatIsNotHeld_70 post ls tl ec kc n (nI i) st dr nm pa ve sz it sm hl th sp tb dl dn cc cv mn mc oc on om op tr el cm := by
  intro e
  induction e with
  | zero =>
    intro i n st h3 hi hn hs
    obtain ⟨n, rfl⟩ : ∃ n', n = n' + 1 := ⟨n - 1, by omega⟩
    have : i = 48 := by omega
    subst this
    exact br_t (by decide) (h st hs)
  | succ e ih =>
    intro i n st h3 hi hn hs
    obtain ⟨n, rfl⟩ : ∃ n', n = n' + 1 := ⟨n - 1, by omega⟩
    have ix := bt_ix48 (q := i) (by omega)
    have si : st i = st0 i := (hs i).2 (fun z => by omega)
    have keep : ¬ (st0 i = 2 ∧ ¬ H i) → wX_freeWhatIsNotHeld_70 post ls tl ec kc n (nI (i + 1)) st dr nm pa ve sz it sm hl th sp tb dl dn cc cv mn mc oc on om op tr el cm := by
      intro z
      refine ih (i + 1) n st (by omega) (by omega) (by omega) (fun j => ⟨fun w => ?_, fun w => ?_⟩)
      · by_cases y : j = i
        · subst y; exact absurd w.2.2 z
        · exact (hs j).1 ⟨w.1, by omega, w.2.2⟩
      · exact (hs j).2 (fun y => w ⟨y.1, by omega, y.2.2⟩)
    refine br_f ix.2.2.2.1 ⟨ix.2.2.2.2.1, ?_⟩
    rw [ix.2.2.2.2.2.1, si]
    refine br_c (fun z2 => ⟨ix.2.2.2.2.1, br_c (fun z0 => ⟨ix.2.2.2.2.1, nm_e (nm_r (nI_1 _) (ih (i + 1) n _ (by omega) (by omega) (by omega) (fun j => ⟨fun w => ?_, fun w => ?_⟩)))⟩) (fun z0 => nm_r (nI_1 _) (keep (fun w => w.2 ((hm i (by omega)).mp z0))))⟩) (fun z2 => nm_r (nI_1 _) (keep (fun w => z2 w.1)))
    · by_cases y : j = i
      · rw [y, pk_us]
      · rw [pk_un y]; exact (hs j).1 ⟨w.1, by omega, w.2.2⟩
    · have nH : ¬ H i := fun y => (hm i (by omega)).mpr y z0
      have y : j ≠ i := fun y => by subst y; exact w ⟨h3, by omega, z2, nH⟩
      rw [pk_un y]; exact (hs j).2 (fun y => w ⟨y.1, by omega, y.2.2⟩)
theorem xx_sw2_l (hw : bt_wf th dl sp tb dn cc cv mn oc on s t) (h : ∀ st2 hl2, bt_sw st (bt_H th dl dn cc cv mn oc on s t) st2 → post (ls, tl, ec, kc, st2, dr, nm, pa, ve, sz, it, sm, hl2, th, sp, tb, dl, dn, cc, cv, mn, mc, oc, on, om, op, tr, el, cm)) :
    ∀ (e i n : Nat) (hl : Nat → Int32), i + e = 4 → e < n → bt_mk hl (fun x => ∃ p, p < i ∧ th p ≠ 0 ∧ bt_h1 dl dn cc cv mn oc on p (s p) (t p) x) → wX_freeWhatIsNotHeld_23 post n (nI i) ls tl ec kc st dr nm pa ve sz it sm hl th sp tb dl dn cc cv mn mc oc on om op tr el cm := by
  intro e
  induction e with
  | zero =>
    intro i n hl hi hn hm
    obtain ⟨n, rfl⟩ : ∃ n', n = n' + 1 := ⟨n - 1, by omega⟩
    have : i = 4 := by omega
    subst this
    exact br_t (by decide) ⟨46, xx_sw3_l hm (fun st2 h2 => h st2 hl h2) 45 3 46 st (by omega) rfl (by omega) (fun j => ⟨fun w => by omega, fun _ => rfl⟩)⟩
  | succ e ih =>
    intro i n hl hi hn hm
    obtain ⟨n, rfl⟩ : ∃ n', n = n' + 1 := ⟨n - 1, by omega⟩
    have ix := bt_ix4 (q := i) (by omega)
    refine br_f ix.2.2.2.1 ⟨ix.2.2.2.2.1, ?_⟩
    rw [ix.2.2.2.2.2.1]
    refine br_c (fun z => nm_r (nI_1 _) (ih (i + 1) n hl (by omega) (by omega) (bt_mk_c hm (fun x hx => ⟨fun ⟨p, a, b, c⟩ => ⟨p, by omega, b, c⟩, fun ⟨p, a, b, c⟩ => ⟨p, ?_, b, c⟩⟩)))) (fun z => ?_)
    · have : p ≠ i := fun y => by subst y; exact b z
      omega
    · obtain ⟨w1, w2, w3, w4, ⟨L, L7, eL, hd0⟩, w6, w7⟩ := hw i (by omega) z
      refine xx_hd (by omega) L7 eL hd0 hm (fun hl2 m2 => ⟨ix.2.2.2.2.1, ?_⟩)
      show wpX_holdSpace _ _ (sp i)
      rw [w1]
      refine xx_hs w2 w6 m2 (fun hl3 m3 => ⟨ix.2.2.2.2.1, ?_⟩)
      show wpX_holdTable _ _ (tb i)
      rw [w3]
      refine xx_ht w4 w7 m3 (fun hl4 m4 => nm_r (nI_1 _) (ih (i + 1) n hl4 (by omega) (by omega) (bt_mk_c m4 (fun x hx => ?_))))
      constructor
      · rintro (((⟨p, a, b, c⟩ | y) | y) | y)
        · exact ⟨p, by omega, b, c⟩
        · exact ⟨i, by omega, z, Or.inl y⟩
        · exact ⟨i, by omega, z, Or.inr (Or.inl y)⟩
        · exact ⟨i, by omega, z, Or.inr (Or.inr y)⟩
      · rintro ⟨p, a, b, c⟩
        by_cases y : p = i
        · subst y
          rcases c with c | c | c
          · exact Or.inl (Or.inl (Or.inr c))
          · exact Or.inl (Or.inr c)
          · exact Or.inr c
        · exact Or.inl (Or.inl (Or.inl ⟨p, by omega, b, c⟩))
theorem xx_sw1_l (hw : bt_wf th dl sp tb dn cc cv mn oc on s t) (h : ∀ st2 hl2, bt_sw st (bt_H th dl dn cc cv mn oc on s t) st2 → post (ls, tl, ec, kc, st2, dr, nm, pa, ve, sz, it, sm, hl2, th, sp, tb, dl, dn, cc, cv, mn, mc, oc, on, om, op, tr, el, cm)) :
    ∀ (e i n : Nat) (hl : Nat → Int32), i + e = 48 → e < n → (∀ j, j < i → hl j = 0) → wX_freeWhatIsNotHeld_2 post ls tl ec kc n (nI i) st dr nm pa ve sz it sm hl th sp tb dl dn cc cv mn mc oc on om op tr el cm := by
  intro e
  induction e with
  | zero =>
    intro i n hl hi hn hm
    obtain ⟨n, rfl⟩ : ∃ n', n = n' + 1 := ⟨n - 1, by omega⟩
    have : i = 48 := by omega
    subst this
    exact br_t (by decide) ⟨5, xx_sw2_l hw h 4 0 5 hl rfl (by omega) (fun x hx => ⟨fun z => absurd (hm x hx) z, fun ⟨p, a, _⟩ => by omega⟩)⟩
  | succ e ih =>
    intro i n hl hi hn hm
    obtain ⟨n, rfl⟩ : ∃ n', n = n' + 1 := ⟨n - 1, by omega⟩
    have ix := bt_ix48 (q := i) (by omega)
    refine br_f ix.2.2.2.1 ⟨ix.2.2.2.2.1, nm_e (nm_r (nI_1 _) ?_)⟩
    rw [ix.2.2.2.2.2.1]
    refine ih (i + 1) n _ (by omega) (by omega) (fun j hj => ?_)
    by_cases y : j = i
    · rw [y, pk_us]; exact bt_n0
    · rw [pk_un y]; exact hm j (by omega)
theorem xx_sw (hw : bt_wf th dl sp tb dn cc cv mn oc on s t) (h : ∀ st2 hl2, bt_sw st (bt_H th dl dn cc cv mn oc on s t) st2 → post (ls, tl, ec, kc, st2, dr, nm, pa, ve, sz, it, sm, hl2, th, sp, tb, dl, dn, cc, cv, mn, mc, oc, on, om, op, tr, el, cm)) : wpX_freeWhatIsNotHeld post (ls, tl, ec, kc, st, dr, nm, pa, ve, sz, it, sm, hl, th, sp, tb, dl, dn, cc, cv, mn, mc, oc, on, om, op, tr, el, cm) :=
  ⟨49, xx_sw1_l hw h 48 0 49 hl rfl (by omega) (fun j hj => by omega)⟩
end
end
section
section
variable {ls tl ec kc : Int32} {st dr nm pa ve sz it sm hl th sp tb dl dn cc cv mn mc oc on om op tr el cm : Nat → Int32} {es tt se fr : Int32} {sY tY dy dm vc ms me cr hd hN ps la ey tn tm sn sc fn fc : Nat → Int32} {s s' t t' : Nat → Nat} {sx : Nat → Int32}
theorem bt_wf_R (R : bt_R st dr nm pa sz th dl sp tb dn cc cv mn mc oc on om op sY tY dy dm vc ms me cr hd hN ps la s s' t t') : bt_wf th dl sp tb dn cc cv mn oc on s t := by
  intro p hp tp
  obtain ⟨RA, B1, B2, RS, RT, RP⟩ := R
  obtain ⟨hT, hC, hD⟩ := RP p hp tp
  obtain ⟨L, L1, L7, eL, d0, f⟩ := hT
  refine ⟨(RS.1 p hp).1, (RS.1 p hp).2.1, (RT.1 p hp).1, (RT.1 p hp).2.1, ⟨L, L7, eL, fun i hi => ?_⟩, fun k hk => ?_, fun k hk => ?_⟩
  · obtain ⟨_, n, hn, e, _⟩ := f i hi
    exact ⟨n, hn, e⟩
  · rcases hC k hk with ⟨u, _⟩ | ⟨c, c1, c5, u1, u2, u3, ⟨n, hn, en, _⟩, u5⟩
    · exact Or.inl u
    · refine Or.inr ⟨c, c1, c5, u1, ⟨n, hn, en⟩, fun m hm => ?_⟩
      obtain ⟨_, _, n2, hn2, en2, _⟩ := u5 m hm
      exact ⟨n2, hn2, en2⟩
  · obtain ⟨c, c5, u1, u2, u3, _⟩ := hD k hk
    refine ⟨c, c5, u1, fun m hm => ?_⟩
    obtain ⟨_, n2, hn2, en2, _⟩ := u3 m hm
    exact ⟨n2, hn2, en2⟩
theorem bt_ej {x y : Nat} {z : Int32} (hx : x < 48) (hy : y < 48) (e : z = nI y) : z = nI x ↔ y = x := by
  rw [e]; exact nI_eq (by omega) (by omega)
variable {post : Int32 → Prop}
/-- the descriptors of a table -/
theorem yy_h3_l {p x i j c : Nat} {J : Int32 → Prop} (hj : j < 16) (hc : c ≤ 5) (e1 : oc i = nI c) (e2 : hd j = nI c) (hn : ∀ m, m < c → on (5 * i + m) = hN (5 * j + m))
    (h1 : bt_hj oc on i x → post 1) (h0 : ¬ bt_hj oc on i x → J (nI (j + 1))) :
    ∀ (e m n : Nat), m + e = c → e < n → (∀ m', m' < m → ¬ on (5 * i + m') = nI x) → wY_holds_151 post J (nI p) (nI x) (nI j) ls es tt se fr sx nm pa ve sz sm it dr th sY tY dl dy dm vc ms me cr hd hN ps la ey tn tm sn sc fn fc n (nI m) := by
  have ix := bt_ix16 hj
  intro e
  induction e with
  | zero =>
    intro m n hm hn' no
    obtain ⟨n, rfl⟩ : ∃ n', n = n' + 1 := ⟨n - 1, by omega⟩
    have : m = c := by omega
    subst this
    refine ⟨ix.2.2.2.2.1, br_t ?_ (nm_r (nI_1 _) (h0 ?_))⟩
    · rw [ix.2.2.2.2.2.1, e2]; exact Int32.le_refl _
    · rintro ⟨c2, c52, ec2, m2, hm2, em2⟩
      have : c2 = m := bt_inj (by omega) (by omega) (ec2.symm.trans e1)
      exact no m2 (by omega) em2
  | succ e ih =>
    intro m n hm hn' no
    obtain ⟨n, rfl⟩ : ∃ n', n = n' + 1 := ⟨n - 1, by omega⟩
    have iy := bt_ix80 (q := 5 * j + m) (by omega)
    have e5 : 5 * nI j + nI m = nI (5 * j + m) := by rw [bt_5m, nI_add]
    refine ⟨ix.2.2.2.2.1, ?_⟩
    rw [ix.2.2.2.2.2.1, e2, e5, iy.2.2.2.2.2.1, ← hn m (by omega)]
    refine br_f (nI_ge (by omega) (by omega)) ⟨iy.2.2.2.2.1, br_c (fun z => h1 ⟨c, hc, e1, m, by omega, z⟩) (fun z => nm_r (nI_1 _) (ih (m + 1) n (by omega) (by omega) (fun m' hm' => ?_)))⟩
    by_cases y : m' = m
    · rw [y]; exact z
    · exact no m' (by omega)
theorem yy_h3 {p x a b : Nat} (hp : p < 4) (hb : b < 4) (sb : tY p = nI b) (hD : ∀ k, k < 4 → bt_D st dr sz oc on om op hd hN ps la (4 * a + k) (4 * b + k))
    (h1 : bt_ht oc on a x → post 1) (h0 : ¬ bt_ht oc on a x → post 0) :
    ∀ (e k n : Nat), k + e = 4 → e < n → (∀ k', k' < k → ¬ bt_hj oc on (4 * a + k') x) → wY_holds_134 post (nI p) (nI x) ls es tt se fr sx nm pa ve sz sm it dr th sY tY dl dy dm vc ms me cr hd hN ps la ey tn tm sn sc fn fc n (nI (4 * b + k)) := by
  have ip := bt_ix4 hp
  have lim : 4 * nI b + 4 = nI (4 * b + 4) := by rw [bt_4m, bt_p4]
  intro e
  induction e with
  | zero =>
    intro k n hk hn' no
    obtain ⟨n, rfl⟩ : ∃ n', n = n' + 1 := ⟨n - 1, by omega⟩
    have : k = 4 := by omega
    subst this
    refine ⟨ip.2.2.2.2.1, br_t ?_ (h0 ?_)⟩
    · rw [ip.2.2.2.2.2.1, sb, lim]; exact Int32.le_refl _
    · rintro ⟨k', hk', w⟩
      exact no k' hk' w
  | succ e ih =>
    intro k n hk hn' no
    obtain ⟨n, rfl⟩ : ∃ n', n = n' + 1 := ⟨n - 1, by omega⟩
    obtain ⟨c, c5, u1, u2, u3, _⟩ := hD k (by omega)
    refine ⟨ip.2.2.2.2.1, br_f ?_ ⟨c + 1, yy_h3_l (by omega) c5 u1 u2 (fun m hm => (u3 m hm).1) (fun w => h1 ⟨k, by omega, w⟩) (fun w => ih (k + 1) n (by omega) (by omega) (fun k' hk' => ?_)) c 0 (c + 1) (by omega) (by omega) (fun m hm => by omega)⟩⟩
    · rw [ip.2.2.2.2.2.1, sb, lim]; exact nI_ge (by omega) (by omega)
    · by_cases y : k' = k
      · rw [y]; exact w
      · exact no k' (by omega)
theorem yy_h2_l {p x i j c : Nat} {J : Int32 → Prop} (hj : j < 24) (c1 : 1 ≤ c) (hc : c ≤ 5) (e1 : cc i = nI c) (e2 : ms j = nI c) (hv : ¬ vc j < 0) (hn : ∀ m, m < c → mn (5 * i + m) = me (5 * j + m)) (ncv : ¬ cv i = nI x)
    (h1 : bt_hk cc cv mn i x → post 1) (h0 : ¬ bt_hk cc cv mn i x → J (nI (j + 1))) :
    ∀ (e m n : Nat), m + e = c → e < n → (∀ m', m' < m → ¬ mn (5 * i + m') = nI x) → wY_holds_76 post J (nI p) (nI x) (nI j) ls es tt se fr sx nm pa ve sz sm it dr th sY tY dl dy dm vc ms me cr hd hN ps la ey tn tm sn sc fn fc n (nI m) := by
  have ix := bt_ix24 hj
  intro e
  induction e with
  | zero =>
    intro m n hm hn' no
    obtain ⟨n, rfl⟩ : ∃ n', n = n' + 1 := ⟨n - 1, by omega⟩
    have : m = c := by omega
    subst this
    refine ⟨ix.2.2.2.2.1, br_f ?_ ⟨ix.2.2.2.2.1, br_t ?_ (nm_r (nI_1 _) (h0 ?_))⟩⟩
    · rw [ix.2.2.2.2.2.1]; exact hv
    · rw [ix.2.2.2.2.2.1, e2]; exact Int32.le_refl _
    · rintro ⟨c2, _, c52, ec2, w | ⟨m2, hm2, em2⟩⟩
      · exact ncv w
      · have : c2 = m := bt_inj (by omega) (by omega) (ec2.symm.trans e1)
        exact no m2 (by omega) em2
  | succ e ih =>
    intro m n hm hn' no
    obtain ⟨n, rfl⟩ : ∃ n', n = n' + 1 := ⟨n - 1, by omega⟩
    have iy := bt_ix120 (q := 5 * j + m) (by omega)
    have e5 : 5 * nI j + nI m = nI (5 * j + m) := by rw [bt_5m, nI_add]
    refine ⟨ix.2.2.2.2.1, ?_⟩
    rw [ix.2.2.2.2.2.1, e2, e5, iy.2.2.2.2.2.1, ← hn m (by omega)]
    refine br_f hv ⟨ix.2.2.2.2.1, br_f (nI_ge (by omega) (by omega)) ⟨iy.2.2.2.2.1, br_c (fun z => h1 ⟨c, c1, hc, e1, Or.inr ⟨m, by omega, z⟩⟩) (fun z => nm_r (nI_1 _) (ih (m + 1) n (by omega) (by omega) (fun m' hm' => ?_)))⟩⟩
    by_cases y : m' = m
    · rw [y]; exact z
    · exact no m' (by omega)
theorem yy_h2 {p x a b t0 : Nat} (hp : p < 4) (hb : b < 4) (sb : sY p = nI b) (ht0 : t0 < 4) (tb0 : tY p = nI t0) (hx : x < 48) (hC : ∀ k, k < 6 → bt_C st cc cv mn mc vc ms me cr (6 * a + k) (6 * b + k))
    (h1 : bt_hs cc cv mn a x → post 1) (h0 : ¬ bt_hs cc cv mn a x → ∃ n, wY_holds_134 post (nI p) (nI x) ls es tt se fr sx nm pa ve sz sm it dr th sY tY dl dy dm vc ms me cr hd hN ps la ey tn tm sn sc fn fc n (nI (4 * t0))) :
    ∀ (e k n : Nat), k + e = 6 → e < n → (∀ k', k' < k → ¬ bt_hk cc cv mn (6 * a + k') x) → wY_holds_45 post (nI p) (nI x) ls es tt se fr sx nm pa ve sz sm it dr th sY tY dl dy dm vc ms me cr hd hN ps la ey tn tm sn sc fn fc n (nI (6 * b + k)) := by
  have ip := bt_ix4 hp
  have lim : 6 * nI b + 6 = nI (6 * b + 6) := by rw [bt_6m, bt_p6]
  intro e
  induction e with
  | zero =>
    intro k n hk hn' no
    obtain ⟨n, rfl⟩ : ∃ n', n = n' + 1 := ⟨n - 1, by omega⟩
    have : k = 6 := by omega
    subst this
    refine ⟨ip.2.2.2.2.1, br_t ?_ ⟨ip.2.2.2.2.1, nm_r (show _ = nI (4 * t0) from ?_) (h0 ?_)⟩⟩
    · rw [ip.2.2.2.2.2.1, sb, lim]; exact Int32.le_refl _
    · rw [ip.2.2.2.2.2.1, tb0, bt_4m]
    · rintro ⟨k', hk', w⟩
      exact no k' hk' w
  | succ e ih =>
    intro k n hk hn' no
    obtain ⟨n, rfl⟩ : ∃ n', n = n' + 1 := ⟨n - 1, by omega⟩
    have ix := bt_ix24 (q := 6 * b + k) (by omega)
    have nx : ¬ bt_hk cc cv mn (6 * a + k) x → wY_holds_45 post (nI p) (nI x) ls es tt se fr sx nm pa ve sz sm it dr th sY tY dl dy dm vc ms me cr hd hN ps la ey tn tm sn sc fn fc n (nI (6 * b + k + 1)) := by
      intro w
      refine ih (k + 1) n (by omega) (by omega) (fun k' hk' => ?_)
      by_cases y : k' = k
      · rw [y]; exact w
      · exact no k' (by omega)
    refine ⟨ip.2.2.2.2.1, br_f ?_ ⟨ix.2.2.2.2.1, ?_⟩⟩
    · rw [ip.2.2.2.2.2.1, sb, lim]; exact nI_ge (by omega) (by omega)
    rw [ix.2.2.2.2.2.1]
    rcases hC k (by omega) with ⟨u, w⟩ | ⟨c, c1, c5, u1, u2, u3, ⟨q, hq, eq, _⟩, u5⟩
    · refine br_f (fun z => bt_neg (n := x) (by omega) (z.symm.trans w)) ⟨1, ⟨ix.2.2.2.2.1, br_t ?_ (nm_r (nI_1 _) (nx ?_))⟩⟩
      · rw [ix.2.2.2.2.2.1, w]; decide
      · rintro ⟨c2, c12, _, ec2, _⟩
        exact nI_ne0 (by omega) (by omega) (ec2.symm.trans u)
    · refine br_c (fun z => h1 ⟨k, by omega, c, c1, c5, u1, Or.inl (u3.trans z)⟩) (fun z => ⟨c + 1, yy_h2_l (by omega) c1 c5 u1 u2 ?_ (fun m hm => (u5 m hm).1) (fun y => z (u3.symm.trans y)) (fun w => h1 ⟨k, by omega, w⟩) nx c 0 (c + 1) (by omega) (by omega) (fun m hm => by omega)⟩)
      rw [← u3, eq]; exact nI_pos (by omega)
theorem yy_h1 {p x : Nat} (R : bt_R st dr nm pa sz th dl sp tb dn cc cv mn mc oc on om op sY tY dy dm vc ms me cr hd hN ps la s s' t t') (hp : p < 4) (tp : th p ≠ 0) (hx : x < 48)
    (h1 : bt_h1 dl dn cc cv mn oc on p (s p) (t p) x → post 1) (h0 : ¬ bt_h1 dl dn cc cv mn oc on p (s p) (t p) x → post 0) : wpY_holds post (ls, es, tt, se, fr, sx, nm, pa, ve, sz, sm, it, dr, th, sY, tY, dl, dy, dm, vc, ms, me, cr, hd, hN, ps, la, ey, tn, tm, sn, sc, fn, fc) (nI p) (nI x) := by
  obtain ⟨RA, B1, B2, RS, RT, RP⟩ := R
  obtain ⟨hT, hC, hD⟩ := RP p hp tp
  obtain ⟨L, L1, L7, eL, d0, f⟩ := hT
  obtain ⟨_, _, sb, hb⟩ := RS.1 p hp
  obtain ⟨_, _, tb0, ht0⟩ := RT.1 p hp
  have ip := bt_ix4 hp
  have key : ∀ (e i n : Nat), i + e = L → e < n → (∀ j, j < i → ¬ dn (7 * p + j) = nI x) → wY_holds_2 post (nI p) (nI x) ls es tt se fr sx nm pa ve sz sm it dr th sY tY dl dy dm vc ms me cr hd hN ps la ey tn tm sn sc fn fc n (nI i) := by
    intro e
    induction e with
    | zero =>
      intro i n hi hn no
      obtain ⟨n, rfl⟩ : ∃ n', n = n' + 1 := ⟨n - 1, by omega⟩
      have : i = L := by omega
      subst this
      refine ⟨ip.2.2.2.2.1, br_t ?_ ⟨ip.2.2.2.2.1, nm_r (show _ = nI (6 * s' p) from ?_) ⟨7, yy_h2 hp hb sb ht0 tb0 hx hC (fun w => h1 (Or.inr (Or.inl w))) (fun w2 => ⟨5, yy_h3 hp ht0 tb0 hD (fun w => h1 (Or.inr (Or.inr w))) (fun w3 => h0 ?_) 4 0 5 rfl (by omega) (fun k hk => by omega)⟩) 6 0 7 rfl (by omega) (fun k hk => by omega)⟩⟩⟩
      · rw [ip.2.2.2.2.2.1, eL]; exact Int32.le_refl _
      · rw [ip.2.2.2.2.2.1, sb, bt_6m]
      · rintro (⟨j, L2, hj, _, eL2, ej⟩ | w | w)
        · have : L2 = i := bt_inj (by omega) (by omega) (eL2.symm.trans eL)
          exact no j (by omega) ej
        · exact w2 w
        · exact w3 w
    | succ e ih =>
      intro i n hi hn no
      obtain ⟨n, rfl⟩ : ∃ n', n = n' + 1 := ⟨n - 1, by omega⟩
      have iy := bt_ix28 (q := 7 * p + i) (by omega)
      have e7 : 7 * nI p + nI i = nI (7 * p + i) := by rw [bt_7m, nI_add]
      refine ⟨ip.2.2.2.2.1, ?_⟩
      rw [ip.2.2.2.2.2.1, eL, e7, iy.2.2.2.2.2.1, ← (f i (by omega)).1]
      refine br_f (nI_ge (by omega) (by omega)) ⟨iy.2.2.2.2.1, br_c (fun z => h1 (Or.inl ⟨i, L, by omega, L7, eL, z⟩)) (fun z => nm_r (nI_1 _) (ih (i + 1) n (by omega) (by omega) (fun j hj => ?_)))⟩
      by_cases y : j = i
      · rw [y]; exact z
      · exact no j (by omega)
  exact ⟨L + 1, key L 0 (L + 1) (by omega) (by omega) (fun j hj => by omega)⟩
theorem yy_isHeld {x : Nat} (R : bt_R st dr nm pa sz th dl sp tb dn cc cv mn mc oc on om op sY tY dy dm vc ms me cr hd hN ps la s s' t t') (hx : x < 48)
    (h1 : bt_H th dl dn cc cv mn oc on s t x → post 1) (h0 : ¬ bt_H th dl dn cc cv mn oc on s t x → post 0) : wpY_isHeld post (ls, es, tt, se, fr, sx, nm, pa, ve, sz, sm, it, dr, th, sY, tY, dl, dy, dm, vc, ms, me, cr, hd, hN, ps, la, ey, tn, tm, sn, sc, fn, fc) (nI x) := by
  have key : ∀ (e i n : Nat), i + e = 4 → e < n → (∀ p, p < i → th p ≠ 0 → ¬ bt_h1 dl dn cc cv mn oc on p (s p) (t p) x) → wY_isHeld_2 post (nI x) ls es tt se fr sx nm pa ve sz sm it dr th sY tY dl dy dm vc ms me cr hd hN ps la ey tn tm sn sc fn fc n (nI i) := by
    intro e
    induction e with
    | zero =>
      intro i n hi hn no
      obtain ⟨n, rfl⟩ : ∃ n', n = n' + 1 := ⟨n - 1, by omega⟩
      have : i = 4 := by omega
      subst this
      exact br_t (by decide) (h0 (fun ⟨p, hp, tp, w⟩ => no p hp tp w))
    | succ e ih =>
      intro i n hi hn no
      obtain ⟨n, rfl⟩ : ∃ n', n = n' + 1 := ⟨n - 1, by omega⟩
      have ix := bt_ix4 (q := i) (by omega)
      refine br_f ix.2.2.2.1 ⟨ix.2.2.2.2.1, ?_⟩
      rw [ix.2.2.2.2.2.1]
      refine br_c (fun z => nm_r (nI_1 _) (ih (i + 1) n (by omega) (by omega) (fun p hp tp => ?_))) (fun z => yy_h1 R (by omega) z hx (fun w => br_f (by decide) (h1 ⟨i, by omega, z, w⟩)) (fun w => br_t rfl (nm_r (nI_1 _) (ih (i + 1) n (by omega) (by omega) (fun p hp tp => ?_)))))
      · have : p ≠ i := fun y => by subst y; exact tp z
        exact no p (by omega) tp
      · by_cases y : p = i
        · rw [y]; exact w
        · exact no p (by omega) tp
  exact ⟨5, key 4 0 5 rfl (by omega) (fun p hp => by omega)⟩
theorem yy_sw {post : SY → Prop} (R : bt_R st dr nm pa sz th dl sp tb dn cc cv mn mc oc on om op sY tY dy dm vc ms me cr hd hN ps la s s' t t') (h : ∀ st2, bt_sw st (bt_H th dl dn cc cv mn oc on s t) st2 → post (ls, es, tt, se, fr, st2, nm, pa, ve, sz, sm, it, dr, th, sY, tY, dl, dy, dm, vc, ms, me, cr, hd, hN, ps, la, ey, tn, tm, sn, sc, fn, fc)) : wpY_sweep post (ls, es, tt, se, fr, st, nm, pa, ve, sz, sm, it, dr, th, sY, tY, dl, dy, dm, vc, ms, me, cr, hd, hN, ps, la, ey, tn, tm, sn, sc, fn, fc) := by
  have key : ∀ (e i n : Nat) (sx : Nat → Int32), 3 ≤ i → i + e = 48 → e < n → (∀ j, (3 ≤ j ∧ j < i ∧ st j = 2 ∧ ¬ bt_H th dl dn cc cv mn oc on s t j → sx j = 0) ∧ (¬ (3 ≤ j ∧ j < i ∧ st j = 2 ∧ ¬ bt_H th dl dn cc cv mn oc on s t j) → sx j = st j)) → wY_sweep_2 post ls es tt se fr n (nI i) sx nm pa ve sz sm it dr th sY tY dl dy dm vc ms me cr hd hN ps la ey tn tm sn sc fn fc := by
    intro e
    induction e with
    | zero =>
      intro i n sx h3 hi hn hs
      obtain ⟨n, rfl⟩ : ∃ n', n = n' + 1 := ⟨n - 1, by omega⟩
      have : i = 48 := by omega
      subst this
      exact br_t (by decide) (h sx hs)
    | succ e ih =>
      intro i n sx h3 hi hn hs
      obtain ⟨n, rfl⟩ : ∃ n', n = n' + 1 := ⟨n - 1, by omega⟩
      have ix := bt_ix48 (q := i) (by omega)
      have si : sx i = st i := (hs i).2 (fun z => by omega)
      have keep : ¬ (st i = 2 ∧ ¬ bt_H th dl dn cc cv mn oc on s t i) → wY_sweep_2 post ls es tt se fr n (nI (i + 1)) sx nm pa ve sz sm it dr th sY tY dl dy dm vc ms me cr hd hN ps la ey tn tm sn sc fn fc := by
        intro z
        refine ih (i + 1) n sx (by omega) (by omega) (by omega) (fun j => ⟨fun w => ?_, fun w => ?_⟩)
        · by_cases y : j = i
          · subst y; exact absurd w.2.2 z
          · exact (hs j).1 ⟨w.1, by omega, w.2.2⟩
        · exact (hs j).2 (fun y => w ⟨y.1, by omega, y.2.2⟩)
      refine br_f ix.2.2.2.1 ⟨ix.2.2.2.2.1, ?_⟩
      rw [ix.2.2.2.2.2.1, si]
      refine br_c (fun z2 => yy_isHeld R (by omega) (fun w => br_f (by decide) (nm_r (nI_1 _) (keep (fun y => y.2 w)))) (fun nH => br_t rfl ⟨ix.2.2.2.2.1, nm_e (nm_r (nI_1 _) (ih (i + 1) n _ (by omega) (by omega) (by omega) (fun j => ⟨fun w => ?_, fun w => ?_⟩)))⟩)) (fun z2 => nm_r (nI_1 _) (keep (fun w => z2 w.1)))
      · by_cases y : j = i
        · rw [y, pk_us]
        · rw [pk_un y]; exact (hs j).1 ⟨w.1, by omega, w.2.2⟩
      · have y : j ≠ i := fun y => by subst y; exact w ⟨h3, by omega, z2, nH⟩
        rw [pk_un y]; exact (hs j).2 (fun y => w ⟨y.1, by omega, y.2.2⟩)
  exact ⟨46, key 45 3 46 st (by omega) rfl (by omega) (fun j => ⟨fun w => by omega, fun _ => rfl⟩)⟩
end
end
section
def i_Rel (_ : Nat) (u : SX) (v : SY) : Prop := ∃ (ls tl ec kc es tt se fr : Int32) (st dr nm pa ve sz it sm hl th sp tb dl dn cc cv mn mc oc on om op tr el cm sY tY dy dm vc ms me cr hd hN ps la ey tn tm sn sc fn fc : Nat → Int32) (s s' t t' : Nat → Nat), u = (ls, tl, ec, kc, st, dr, nm, pa, ve, sz, it, sm, hl, th, sp, tb, dl, dn, cc, cv, mn, mc, oc, on, om, op, tr, el, cm) ∧ v = (ls, es, tt, se, fr, st, nm, pa, ve, sz, sm, it, dr, th, sY, tY, dl, dy, dm, vc, ms, me, cr, hd, hN, ps, la, ey, tn, tm, sn, sc, fn, fc) ∧ bt_R st dr nm pa sz th dl sp tb dn cc cv mn mc oc on om op sY tY dy dm vc ms me cr hd hN ps la s s' t t'
theorem i_up {k : Nat} {u : SX} {v : SY} (h : i_Rel k u v) : i_Rel (k + 6) u v := h
section
variable {ls tl ec kc : Int32} {st dr nm pa ve sz it sm hl th sp tb dl dn cc cv mn mc oc on om op tr el cm : Nat → Int32} {es tt se fr : Int32} {sY tY dy dm vc ms me cr hd hN ps la ey tn tm sn sc fn fc : Nat → Int32} {s s' t t' : Nat → Nat}
theorem bt_mkR {k : Nat} (R : bt_R st dr nm pa sz th dl sp tb dn cc cv mn mc oc on om op sY tY dy dm vc ms me cr hd hN ps la s s' t t') : i_Rel k (ls, tl, ec, kc, st, dr, nm, pa, ve, sz, it, sm, hl, th, sp, tb, dl, dn, cc, cv, mn, mc, oc, on, om, op, tr, el, cm) (ls, es, tt, se, fr, st, nm, pa, ve, sz, sm, it, dr, th, sY, tY, dl, dy, dm, vc, ms, me, cr, hd, hN, ps, la, ey, tn, tm, sn, sc, fn, fc) := ⟨ls, tl, ec, kc, es, tt, se, fr, st, dr, nm, pa, ve, sz, it, sm, hl, th, sp, tb, dl, dn, cc, cv, mn, mc, oc, on, om, op, tr, el, cm, sY, tY, dy, dm, vc, ms, me, cr, hd, hN, ps, la, ey, tn, tm, sn, sc, fn, fc, s, s', t, t', rfl, rfl, R⟩
theorem ev_R {p m D : Nat} {x : Int32} (R : bt_R st dr nm pa sz th dl sp tb dn cc cv mn mc oc on om op sY tY dy dm vc ms me cr hd hN ps la s s' t t') (hp : p < 4) (tp : th p ≠ 0) (rx : bt_rw x m) (dx : bt_dg m D) (gx : bt_g m D) :
    ∃ (r : Int32) (L' : Nat) (tr' el2 : Nat → Int32), bt_an st tr' r L' ∧ (∃ tn tm, bt_tr st nm tr' tn tm L') ∧
      (∀ post : Int32 → SX → Prop, post r (ls, nI L', nI D, kc, st, dr, nm, pa, ve, sz, it, sm, hl, th, sp, tb, dl, dn, cc, cv, mn, mc, oc, on, om, op, tr', el2, cm) → wpX_evaluate post (ls, tl, ec, kc, st, dr, nm, pa, ve, sz, it, sm, hl, th, sp, tb, dl, dn, cc, cv, mn, mc, oc, on, om, op, tr, el, cm) (nI p) x) ∧
      (∀ (post : Int32 → SY → Prop) (es tt se fr : Int32) (ey tn tm sn sc fn fc : Nat → Int32), (∀ (es2 se2 : Int32) (ey2 tn2 tm2 sn2 sc2 : Nat → Int32), bt_tr st nm tr' tn2 tm2 L' → post r (ls, es2, nI L', se2, fr, st, nm, pa, ve, sz, sm, it, dr, th, sY, tY, dl, dy, dm, vc, ms, me, cr, hd, hN, ps, la, ey2, tn2, tm2, sn2, sc2, fn, fc)) →
        wpY_evaluate post (ls, es, tt, se, fr, st, nm, pa, ve, sz, sm, it, dr, th, sY, tY, dl, dy, dm, vc, ms, me, cr, hd, hN, ps, la, ey, tn, tm, sn, sc, fn, fc) (nI p) x 0) := by
  obtain ⟨RA, B1, B2, RS, RT, RP⟩ := R
  obtain ⟨hT, hC, hD⟩ := RP p hp tp
  obtain ⟨sa, ha, sb, hb⟩ := RS.1 p hp
  obtain ⟨r, L', tr', el2, an, hT2, fX, fY⟩ := ev_t (ls := ls) (tl := tl) (ec := ec) (kc := kc) (st := st) (dr := dr) (nm := nm) (pa := pa) (ve := ve) (sz := sz) (it := it) (sm := sm) (hl := hl) (th := th) (sp := sp) (tb := tb) (dl := dl) (dn := dn) (cc := cc) (cv := cv) (mn := mn) (mc := mc) (oc := oc) (on := on) (om := om) (op := op) (tr := tr) (el := el) (cm := cm) (lv := 0) hp ha hb sa sb B2 hC tp hT (RA.2.1 0 (by omega)) rx dx gx rx dx gx Iff.rfl (by rw [Int32.sub_zero])
    (fun j hj => by
      have : D - 1 - (D - 1 - j) = j := by omega
      rw [this]) (Nat.le_refl _)
  exact ⟨r, L', tr', el2, an, hT2, fX, fun post es tt se fr ey tn tm sn sc fn fc h => fY post es tt se fr ey tn tm sn sc fn fc (fun ey2 tn2 tm2 sn2 sc2 se2 _ ht => h _ _ _ _ _ _ _ ht)⟩
theorem xx_ev0 {post : Int32 → SX → Prop} {p x : Int32} {m D : Nat} (rx : bt_rw x m) (dx : bt_dg m D) (hn : ¬ ((∃ q, q < 4 ∧ p = nI q ∧ th q ≠ 0) ∧ bt_g m D)) (h : post (-1) (ls, tl, ec, kc, st, dr, nm, pa, ve, sz, it, sm, hl, th, sp, tb, dl, dn, cc, cv, mn, mc, oc, on, om, op, tr, el, cm)) : wpX_evaluate post (ls, tl, ec, kc, st, dr, nm, pa, ve, sz, it, sm, hl, th, sp, tb, dl, dn, cc, cv, mn, mc, oc, on, om, op, tr, el, cm) p x := by
  unfold wpX_evaluate
  by_cases hp : ∃ q, q < 4 ∧ p = nI q ∧ th q ≠ 0
  · obtain ⟨q, hq, rfl, tq⟩ := hp
    exact xx_isP1 hq tq (br_f (by decide) (xx_path rx dx (fun g => absurd ⟨⟨q, hq, rfl, tq⟩, g⟩ hn) (fun _ => br_t rfl h)))
  · exact xx_isP0 hp (br_t rfl h)
theorem yy_isPath1 {post : Int32 → SY → Prop} {p m D : Nat} {x : Int32} (hp : p < 4) (tp : th p ≠ 0) (rx : bt_rw x m) (dx : bt_dg m D) (gx : bt_g m D)
    (h : ∀ ey2 : Nat → Int32, (∀ k, k < D → ey2 k = nI (m / 11 ^ (D - 1 - k) % 11)) → post 1 (ls, nI D, tt, se, fr, st, nm, pa, ve, sz, sm, it, dr, th, sY, tY, dl, dy, dm, vc, ms, me, cr, hd, hN, ps, la, ey2, tn, tm, sn, sc, fn, fc)) : wpY_isPath post (ls, es, tt, se, fr, st, nm, pa, ve, sz, sm, it, dr, th, sY, tY, dl, dy, dm, vc, ms, me, cr, hd, hN, ps, la, ey, tn, tm, sn, sc, fn, fc) (nI p) x := by
  unfold wpY_isPath
  exact yy_isP1 hp tp (br_f (by decide) (yy_split rx dx (fun _ ey2 he => br_f (by decide) (h ey2 he)) (fun g => absurd gx g)))
theorem yy_isPath0 {post : Int32 → SY → Prop} {p x : Int32} {m D : Nat} (rx : bt_rw x m) (dx : bt_dg m D) (hn : ¬ ((∃ q, q < 4 ∧ p = nI q ∧ th q ≠ 0) ∧ bt_g m D))
    (h : ∀ (es2 : Int32) (ey2 : Nat → Int32), post 0 (ls, es2, tt, se, fr, st, nm, pa, ve, sz, sm, it, dr, th, sY, tY, dl, dy, dm, vc, ms, me, cr, hd, hN, ps, la, ey2, tn, tm, sn, sc, fn, fc)) : wpY_isPath post (ls, es, tt, se, fr, st, nm, pa, ve, sz, sm, it, dr, th, sY, tY, dl, dy, dm, vc, ms, me, cr, hd, hN, ps, la, ey, tn, tm, sn, sc, fn, fc) p x := by
  unfold wpY_isPath
  by_cases hp : ∃ q, q < 4 ∧ p = nI q ∧ th q ≠ 0
  · obtain ⟨q, hq, rfl, tq⟩ := hp
    exact yy_isP1 hq tq (br_f (by decide) (yy_split rx dx (fun g => absurd ⟨⟨q, hq, rfl, tq⟩, g⟩ hn) (fun _ ey2 => br_t rfl (h 0 ey2))))
  · exact yy_isP0 hp (br_t rfl (h es ey))
end
theorem bt_xd (x : Int32) : ∃ m D, bt_rw x m ∧ bt_dg m D := by
  obtain ⟨m, hm⟩ := bt_rw_e x
  obtain ⟨D, h9, hD⟩ := bt_dig m hm.1
  exact ⟨m, D, hm, h9, hD⟩
/-- the answer of an evaluation, two ways -/
theorem bt_an2 {st tr : Nat → Int32} {r : Int32} {L : Nat} (h : bt_an st tr r L) : (¬ 0 ≤ r) ∨ ∃ n, n < 48 ∧ r = nI n ∧ st n ≠ 0 ∧ tr (L - 1) = nI n := by
  rcases h with ⟨_, h⟩ | h
  · exact Or.inl h
  · exact Or.inr h
end
section
section
variable {ls tl ec kc : Int32} {st dr nm pa ve sz it sm hl th sp tb dl dn cc cv mn mc oc on om op tr el cm : Nat → Int32} {es tt se fr : Int32} {sY tY dy dm vc ms me cr hd hN ps la ey tn tm sn sc fn fc : Nat → Int32} {s s' t t' : Nat → Nat}
theorem yy_init24 {post : SY → Prop} (h : ∀ vc2 : Nat → Int32, (∀ j, j < 24 → vc2 j = -1) → post (ls, es, tt, se, fr, st, nm, pa, ve, sz, sm, it, dr, (upd th 0 (vp_nar .boolean 1)), sY, tY, (upd dl 0 1), dy, dm, vc2, ms, me, cr, hd, hN, ps, la, ey, tn, tm, sn, sc, fn, fc)) :
    ∀ (e i n : Nat) (vc : Nat → Int32), i + e = 24 → e < n → (∀ j, j < i → vc j = -1) → wY_init_267 post ls es tt se fr n (nI i) st nm pa ve sz sm it dr th sY tY dl dy dm vc ms me cr hd hN ps la ey tn tm sn sc fn fc := by
  intro e
  induction e with
  | zero =>
    intro i n vc hi hn hj
    obtain ⟨n, rfl⟩ : ∃ n', n = n' + 1 := ⟨n - 1, by omega⟩
    have : i = 24 := by omega
    subst this
    exact br_t (by decide) (nm_e (nm_e (h vc hj)))
  | succ e ih =>
    intro i n vc hi hn hj
    obtain ⟨n, rfl⟩ : ∃ n', n = n' + 1 := ⟨n - 1, by omega⟩
    have ix := bt_ix24 (q := i) (by omega)
    refine br_f ix.2.2.2.1 ⟨ix.2.2.2.2.1, ?_⟩
    rw [ix.2.2.2.2.2.1]
    refine nm_e (nm_r (nI_1 _) (ih (i + 1) n _ (by omega) (by omega) (fun j h => ?_)))
    by_cases w : j = i
    · rw [w, pk_us]
    · rw [pk_un w]; exact hj j (by omega)
end
theorem bt_R0 {vc : Nat → Int32} (hv : ∀ j, j < 24 → vc j = -1) :
    bt_R (upd (upd (upd (fun _ => 0) 0 1) 1 1) 2 1) (upd (upd (upd (fun _ => 0) 0 (vp_nar .boolean 1)) 1 (vp_nar .boolean 1)) 2 (vp_nar .boolean 1)) (fun _ => 0) (upd (upd (upd (fun _ => 0) 0 (-1)) 1 (-1)) 2 (-1)) (fun _ => 0) (upd (fun _ => 0) 0 (vp_nar .boolean 1)) (upd (fun _ => 0) 0 1) (fun _ => 0) (fun _ => 0) (fun _ => 0) (fun _ => 0) (fun _ => 0) (fun _ => 0) (fun _ => 0) (fun _ => 0) (fun _ => 0) (fun _ => 0) (fun _ => 0) (fun _ => 0) (fun _ => 0) (fun _ => 0) (fun _ => 0) vc (fun _ => 0) (fun _ => 0) (fun _ => 0) (fun _ => 0) (fun _ => 0) (fun _ => 0) (fun _ => 0) (fun _ => 0) (fun _ => 0) (fun _ => 0) (fun _ => 0) := by
  have hb : bt_B (vp_nar .boolean 1) := by rw [bt_n1]; exact bt_B1
  refine ⟨⟨bt_Bu (bt_Bu (bt_Bu (fun _ => bt_B0) hb) hb) hb, fun n hn => ?_, fun n hn => ⟨fun h3 h1 => ?_, fun _ => ⟨0, by omega, rfl⟩, fun _ => rfl⟩⟩, fun _ => bt_B0, fun _ => bt_B0,
    ⟨fun p hp => ⟨rfl, show 0 < 4 by omega, rfl, show 0 < 4 by omega⟩, fun p q _ _ _ _ => Iff.rfl⟩, ⟨fun p hp => ⟨rfl, show 0 < 4 by omega, rfl, show 0 < 4 by omega⟩, fun p q _ _ _ _ => Iff.rfl⟩, fun p hp tp => ?_⟩
  · have : n = 0 ∨ n = 1 ∨ n = 2 := by omega
    rcases this with rfl | rfl | rfl <;> decide
  · rw [pk_un (by omega), pk_un (by omega), pk_un (by omega)] at h1
    exact absurd rfl h1
  · by_cases e : p = 0
    · subst e
      refine ⟨⟨1, by omega, by omega, rfl, rfl, fun i hi => ⟨rfl, 0, by omega, rfl, by decide, fun h => by omega⟩⟩, fun k hk => Or.inl ⟨rfl, hv _ (show 6 * 0 + k < 24 by omega)⟩, fun k hk => ⟨0, by omega, rfl, rfl, fun m hm => by omega, fun h => by omega⟩⟩
    · rw [pk_un e] at tp
      exact absurd rfl tp
theorem bt_v48 {q : Nat} (h : q < 48) : vp_in (nI q) 48 := vp_in_nI h (by decide)
theorem i_vc0 : wpX_init (fun u => wpY_init (fun v => i_Rel 0 u v)) := by
  refine ⟨4, br_f (by decide) ⟨bt_v48 (q := 0) (by omega), nm_e ⟨bt_v48 (q := 0) (by omega), nm_e ⟨bt_v48 (q := 0) (by omega), nm_e (nm_r (nI_1 0) ?_)⟩⟩⟩⟩
  refine br_f (by decide) ⟨bt_v48 (q := 1) (by omega), nm_e ⟨bt_v48 (q := 1) (by omega), nm_e ⟨bt_v48 (q := 1) (by omega), nm_e (nm_r (nI_1 1) ?_)⟩⟩⟩
  refine br_f (by decide) ⟨bt_v48 (q := 2) (by omega), nm_e ⟨bt_v48 (q := 2) (by omega), nm_e ⟨bt_v48 (q := 2) (by omega), nm_e (nm_r (nI_1 2) ?_)⟩⟩⟩
  refine br_t (by decide) (nm_e (nm_e ?_))
  refine ⟨4, br_f (by decide) ⟨bt_v48 (q := 0) (by omega), nm_e ⟨bt_v48 (q := 0) (by omega), nm_e ⟨bt_v48 (q := 0) (by omega), nm_e (nm_r (nI_1 0) ?_)⟩⟩⟩⟩
  refine br_f (by decide) ⟨bt_v48 (q := 1) (by omega), nm_e ⟨bt_v48 (q := 1) (by omega), nm_e ⟨bt_v48 (q := 1) (by omega), nm_e (nm_r (nI_1 1) ?_)⟩⟩⟩
  refine br_f (by decide) ⟨bt_v48 (q := 2) (by omega), nm_e ⟨bt_v48 (q := 2) (by omega), nm_e ⟨bt_v48 (q := 2) (by omega), nm_e (nm_r (nI_1 2) ?_)⟩⟩⟩
  refine br_t (by decide) ⟨25, yy_init24 (fun vc2 hv => ?_) 24 0 25 _ rfl (by omega) (fun j h => by omega)⟩
  exact bt_mkR (bt_R0 hv)
theorem i_vc_place {k : Nat} {u : SX} {v : SY} (I : i_Rel k u v) (hk : k + 6 ≤ 3072) (v1 : Int32) (v2 : Int32) : wpX_place (fun r u' => wpY_place (fun r' v' => r' = r ∧ i_Rel (k + 6) u' v') v v1 v2) u v1 v2 := by
  obtain ⟨ls, tl, ec, kc, es, tt, se, fr, st, dr, nm, pa, ve, sz, it, sm, hl, th, sp, tb, dl, dn, cc, cv, mn, mc, oc, on, om, op, tr, el, cm, sY, tY, dy, dm, vc, ms, me, cr, hd, hN, ps, la, ey, tn, tm, sn, sc, fn, fc, s, s', t, t', rfl, rfl, R⟩ := I
  obtain ⟨m, D, rx, dx⟩ := bt_xd v2
  unfold wpX_place wpY_place
  by_cases hn : (∃ q, q < 4 ∧ v1 = nI q ∧ th q ≠ 0) ∧ bt_g m D
  · obtain ⟨⟨p, hp, rfl, tp⟩, gx⟩ := hn
    obtain ⟨r, L', tr', el2, an, hT2, fX, fY⟩ := ev_R (ls := ls) (tl := tl) (ec := ec) (kc := kc) (st := st) (dr := dr) (nm := nm) (pa := pa) (ve := ve) (sz := sz) (it := it) (sm := sm) (hl := hl) (th := th) (sp := sp) (tb := tb) (dl := dl) (dn := dn) (cc := cc) (cv := cv) (mn := mn) (mc := mc) (oc := oc) (on := on) (om := om) (op := op) (tr := tr) (el := el) (cm := cm) R hp tp rx dx gx
    exact fX _ (yy_isPath1 hp tp rx dx gx (fun ey2 _ => br_f (by decide) (fY _ _ _ _ _ _ _ _ _ _ _ _ (fun es2 se2 ey3 tn2 tm2 sn2 sc2 ht => ⟨rfl, bt_mkR R⟩))))
  · exact xx_ev0 rx dx hn (yy_isPath0 rx dx hn (fun es2 ey2 => br_t rfl ⟨rfl, bt_mkR R⟩))
theorem i_vc_seen {k : Nat} {u : SX} {v : SY} (I : i_Rel k u v) (hk : k + 6 ≤ 3072) (v1 : Int32) (v2 : Int32) (v3 : Int32) : wpX_seen (fun r u' => wpY_seen (fun r' v' => r' = r ∧ i_Rel (k + 6) u' v') v v1 v2 v3) u v1 v2 v3 := by
  obtain ⟨ls, tl, ec, kc, es, tt, se, fr, st, dr, nm, pa, ve, sz, it, sm, hl, th, sp, tb, dl, dn, cc, cv, mn, mc, oc, on, om, op, tr, el, cm, sY, tY, dy, dm, vc, ms, me, cr, hd, hN, ps, la, ey, tn, tm, sn, sc, fn, fc, s, s', t, t', rfl, rfl, R⟩ := I
  obtain ⟨m, D, rx, dx⟩ := bt_xd v2
  unfold wpX_seen wpY_seen
  by_cases hn : (∃ q, q < 4 ∧ v1 = nI q ∧ th q ≠ 0) ∧ bt_g m D
  · obtain ⟨⟨p, hp, rfl, tp⟩, gx⟩ := hn
    obtain ⟨r, L', tr', el2, an, hT2, fX, fY⟩ := ev_R (ls := ls) (tl := tl) (ec := ec) (kc := kc) (st := st) (dr := dr) (nm := nm) (pa := pa) (ve := ve) (sz := sz) (it := it) (sm := sm) (hl := hl) (th := th) (sp := sp) (tb := tb) (dl := dl) (dn := dn) (cc := cc) (cv := cv) (mn := mn) (mc := mc) (oc := oc) (on := on) (om := om) (op := op) (tr := tr) (el := el) (cm := cm) R hp tp rx dx gx
    have ip := bt_ix4 hp
    rcases bt_an2 an with ng | ⟨n, hn, rfl, zn, _⟩
    · exact fX _ (br_f ng (yy_isPath1 hp tp rx dx gx (fun ey2 _ => br_f (by decide) (fY _ _ _ _ _ _ _ _ _ _ _ _ (fun es2 se2 ey3 tn2 tm2 sn2 sc2 ht => br_f ng ⟨rfl, bt_mkR R⟩)))))
    · have J := R
      obtain ⟨RA, B1, B2, RS, RT, RP⟩ := J
      obtain ⟨hT, hC, hD⟩ := RP p hp tp
      obtain ⟨sa, ha, sb, hb⟩ := RS.1 p hp
      have Nn : bt_N st (nI n) := ⟨n, hn, rfl, zn⟩
      obtain ⟨c, c1, c5, hv, _, _, hS⟩ := bt_view hC Nn
      have ho : ∀ k', bt_cf cc cv (s p) (nI n) = some k' → k' < 6 := fun k' hk' => (hS k' hk').1
      have i0 : (0 : Int32) ≤ nI n := nI_pos' (by omega)
      by_cases k0 : v3 < 0
      · refine fX _ (br_t i0 ⟨ip.2.2.2.2.1, ?_⟩)
        rw [ip.2.2.2.2.2.1, sa]
        exact xx_coverOf ha (bt_Cc hC) (br_t k0 (yy_isPath1 hp tp rx dx gx (fun ey2 _ => br_f (by decide) (fY _ _ _ _ _ _ _ _ _ _ _ _ (fun es2 se2 ey3 tn2 tm2 sn2 sc2 ht => br_t i0 (yy_look hp hb sb B2 hC Nn rfl hv c1 c5 (fun sn3 sc3 g1 _ _ => br_t k0 ⟨rfl, bt_mkR R⟩)))))))
      · by_cases kc : v3 < nI c
        · obtain ⟨j, hj, rfl⟩ := nI_of k0
          have jc : j < c := (nI_ltI hj (by omega)).mp kc
          have ij := bt_ix5 (q := j) (by omega)
          refine fX _ (br_t i0 ⟨ip.2.2.2.2.1, ?_⟩)
          rw [ip.2.2.2.2.2.1, sa]
          refine xx_coverOf ha (bt_Cc hC) (br_f k0 (xx_seenCount ha ho ?_))
          rw [hv]
          refine br_t kc (xx_seenNode ha (by omega) ho (yy_isPath1 hp tp rx dx gx (fun ey2 _ => br_f (by decide) (fY _ _ _ _ _ _ _ _ _ _ _ _ (fun es2 se2 ey3 tn2 tm2 sn2 sc2 ht => br_t i0 (yy_look hp hb sb B2 hC Nn rfl hv c1 c5 (fun sn3 sc3 g1 _ _ => br_f k0 (br_t kc ⟨ij.2.2.2.2.1, ?_, bt_mkR R⟩))))))))
          rw [ij.2.2.2.2.2.1]; exact g1 j jc
        · refine fX _ (br_t i0 ⟨ip.2.2.2.2.1, ?_⟩)
          rw [ip.2.2.2.2.2.1, sa]
          refine xx_coverOf ha (bt_Cc hC) (br_f k0 (xx_seenCount ha ho ?_))
          rw [hv]
          exact br_f kc (yy_isPath1 hp tp rx dx gx (fun ey2 _ => br_f (by decide) (fY _ _ _ _ _ _ _ _ _ _ _ _ (fun es2 se2 ey3 tn2 tm2 sn2 sc2 ht => br_t i0 (yy_look hp hb sb B2 hC Nn rfl hv c1 c5 (fun sn3 sc3 g1 _ _ => br_f k0 (br_f kc ⟨rfl, bt_mkR R⟩)))))))
  · exact xx_ev0 rx dx hn (br_f (by decide) (yy_isPath0 rx dx hn (fun es2 ey2 => br_t rfl ⟨rfl, bt_mkR R⟩)))
end
section
section
variable {ls tl ec kc : Int32} {st dr nm pa ve sz it sm hl th sp tb dl dn cc cv mn mc oc on om op tr el cm : Nat → Int32} {es tt se fr : Int32} {sY tY dy dm vc ms me cr hd hN ps la ey tn tm sn sc fn fc : Nat → Int32} {s s' t t' : Nat → Nat}
theorem dot_l {p L : Nat} (hp : p < 4) (L7 : L ≤ 7) (eL : dl p = nI L) (f : ∀ i, i < L → ∃ n, n < 48 ∧ dn (7 * p + i) = nI n ∧ (1 ≤ i → dm (7 * p + i) = nm n)) :
    ∀ (e i : Nat) (row : Int32), 1 ≤ i → i + e = L → ∃ r : Int32, (∀ (post : Int32 → Prop) (n : Nat), e < n → post r → wX_dot_14 post (nI p) ls tl ec kc st dr nm pa ve sz it sm hl th sp tb dl dn cc cv mn mc oc on om op tr el cm n row (nI i)) ∧
      (∀ (post : Int32 → Prop) (n : Nat), e < n → post r → wY_dot_14 post (nI p) ls es tt se fr st nm pa ve sz sm it dr th sY tY dl dy dm vc ms me cr hd hN ps la ey tn tm sn sc fn fc n row (nI i)) := by
  have ip := bt_ix4 hp
  intro e
  induction e with
  | zero =>
    intro i row h1 hi
    have : i = L := by omega
    subst this
    refine ⟨-1 - row, fun post n hn h => ?_, fun post n hn h => ?_⟩
    · obtain ⟨n, rfl⟩ : ∃ n', n = n' + 1 := ⟨n - 1, by omega⟩
      refine ⟨ip.2.2.2.2.1, br_t ?_ h⟩
      rw [ip.2.2.2.2.2.1, eL]; exact Int32.le_refl _
    · obtain ⟨n, rfl⟩ : ∃ n', n = n' + 1 := ⟨n - 1, by omega⟩
      refine ⟨ip.2.2.2.2.1, br_t ?_ h⟩
      rw [ip.2.2.2.2.2.1, eL]; exact Int32.le_refl _
  | succ e ih =>
    intro i row h1 hi
    obtain ⟨q, hq, eq, gq⟩ := f i (by omega)
    have iq := bt_ix48 hq
    have iy := bt_ix28 (q := 7 * p + i) (by omega)
    have e7 : nI p * 7 + nI i = nI (7 * p + i) := by rw [bt_m7, nI_add]
    have e7' : 7 * nI p + nI i = nI (7 * p + i) := by rw [bt_7m, nI_add]
    obtain ⟨r, fX, fY⟩ := ih (i + 1) (row * 11 + nm q) (by omega) (by omega)
    refine ⟨r, fun post n hn h => ?_, fun post n hn h => ?_⟩
    · obtain ⟨n, rfl⟩ : ∃ n', n = n' + 1 := ⟨n - 1, by omega⟩
      refine ⟨ip.2.2.2.2.1, ?_⟩
      rw [ip.2.2.2.2.2.1, eL, e7, iy.2.2.2.2.2.1, eq]
      refine br_f (nI_ge (by omega) (by omega)) ⟨iy.2.2.2.2.1, nm_e ⟨iq.2.2.2.2.1, ?_⟩⟩
      rw [iq.2.2.2.2.2.1]
      exact nm_e (nm_r (nI_1 _) (fX post n (by omega) h))
    · obtain ⟨n, rfl⟩ : ∃ n', n = n' + 1 := ⟨n - 1, by omega⟩
      refine ⟨ip.2.2.2.2.1, ?_⟩
      rw [ip.2.2.2.2.2.1, eL, e7', iy.2.2.2.2.2.1, gq h1]
      exact br_f (nI_ge (by omega) (by omega)) ⟨iy.2.2.2.2.1, nm_r (by rw [Int32.mul_comm]) (nm_r (nI_1 _) (fY post n (by omega) h))⟩
theorem xx_pc_l {post : Int32 → Prop} : ∀ (e i n : Nat) (c : Int32), i + e = 4 → e < n → post (bt_ct (fun p => ¬ th p = 0) i e c) → wX_processCount_4 post ls tl ec kc st dr nm pa ve sz it sm hl th sp tb dl dn cc cv mn mc oc on om op tr el cm n c (nI i) := by
  intro e
  induction e with
  | zero =>
    intro i n c hi hn h
    obtain ⟨n, rfl⟩ : ∃ n', n = n' + 1 := ⟨n - 1, by omega⟩
    have : i = 4 := by omega
    subst this
    exact br_t (by decide) h
  | succ e ih =>
    intro i n c hi hn h
    obtain ⟨n, rfl⟩ : ∃ n', n = n' + 1 := ⟨n - 1, by omega⟩
    have ix := bt_ix4 (q := i) (by omega)
    simp only [bt_ct] at h
    refine br_f ix.2.2.2.1 ⟨ix.2.2.2.2.1, ?_⟩
    rw [ix.2.2.2.2.2.1]
    refine br_c (fun z => nm_r (nI_1 _) (ih (i + 1) n _ (by omega) (by omega) ?_)) (fun z => nm_e (nm_r (nI_1 _) (ih (i + 1) n _ (by omega) (by omega) ?_)))
    · rw [if_neg (fun w => w z)] at h; exact h
    · rw [if_pos z] at h; exact h
theorem xx_pc {post : Int32 → Prop} (h : post (bt_ct (fun p => ¬ th p = 0) 0 4 0)) : wpX_processCount post (ls, tl, ec, kc, st, dr, nm, pa, ve, sz, it, sm, hl, th, sp, tb, dl, dn, cc, cv, mn, mc, oc, on, om, op, tr, el, cm) :=
  ⟨5, xx_pc_l 4 0 5 0 rfl (by omega) h⟩
theorem yy_ex_l {post : Int32 → SY → Prop} {x1 c' : Int32} (h : wY_exit_14 post x1 ls es tt se fr st nm pa ve sz sm it dr th sY tY dl dy dm vc ms me cr hd hN ps la ey tn tm sn sc fn fc 1 c' 4) : ∀ (e i n : Nat) (c : Int32), i + e = 4 → e < n → bt_ct (fun p => ¬ th p = 0) i e c = c' → wY_exit_14 post x1 ls es tt se fr st nm pa ve sz sm it dr th sY tY dl dy dm vc ms me cr hd hN ps la ey tn tm sn sc fn fc n c (nI i) := by
  intro e
  induction e with
  | zero =>
    intro i n c hi hn hc
    obtain ⟨n, rfl⟩ : ∃ n', n = n' + 1 := ⟨n - 1, by omega⟩
    have : i = 4 := by omega
    subst this
    have hc' : c = c' := hc
    subst hc'
    exact br_t (by decide) (h.1 (by decide))
  | succ e ih =>
    intro i n c hi hn hc
    obtain ⟨n, rfl⟩ : ∃ n', n = n' + 1 := ⟨n - 1, by omega⟩
    have ix := bt_ix4 (q := i) (by omega)
    simp only [bt_ct] at hc
    refine br_f ix.2.2.2.1 ⟨ix.2.2.2.2.1, ?_⟩
    rw [ix.2.2.2.2.2.1]
    refine br_c (fun z => nm_r (nI_1 _) (ih (i + 1) n _ (by omega) (by omega) ?_)) (fun z => nm_e (nm_r (nI_1 _) (ih (i + 1) n _ (by omega) (by omega) ?_)))
    · rw [if_neg (fun w => w z)] at hc; exact hc
    · rw [if_pos z] at hc; exact hc
end
theorem i_vc_dot {k : Nat} {u : SX} {v : SY} (I : i_Rel k u v) (hk : k + 6 ≤ 3072) (v1 : Int32) : wpX_dot (fun r => wpY_dot (fun r' => r' = r ∧ i_Rel (k + 6) u v) v v1) u v1 := by
  obtain ⟨ls, tl, ec, kc, es, tt, se, fr, st, dr, nm, pa, ve, sz, it, sm, hl, th, sp, tb, dl, dn, cc, cv, mn, mc, oc, on, om, op, tr, el, cm, sY, tY, dy, dm, vc, ms, me, cr, hd, hN, ps, la, ey, tn, tm, sn, sc, fn, fc, s, s', t, t', rfl, rfl, R⟩ := I
  unfold wpX_dot wpY_dot
  by_cases hn : ∃ q, q < 4 ∧ v1 = nI q ∧ th q ≠ 0
  · obtain ⟨p, hp, rfl, tp⟩ := hn
    obtain ⟨L, L1, L7, eL, d0, f⟩ := (R.2.2.2.2.2 p hp tp).1
    obtain ⟨r, fX, fY⟩ := dot_l (ls := ls) (tl := tl) (ec := ec) (kc := kc) (st := st) (dr := dr) (nm := nm) (pa := pa) (ve := ve) (sz := sz) (it := it) (sm := sm) (hl := hl) (th := th) (sp := sp) (tb := tb) (dl := dl) (dn := dn) (cc := cc) (cv := cv) (mn := mn) (mc := mc) (oc := oc) (on := on) (om := om) (op := op) (tr := tr) (el := el) (cm := cm) (es := es) (tt := tt) (se := se) (fr := fr) (sY := sY) (tY := tY) (dy := dy) (dm := dm) (vc := vc) (ms := ms) (me := me) (cr := cr) (hd := hd) (hN := hN) (ps := ps) (la := la) (ey := ey) (tn := tn) (tm := tm) (sn := sn) (sc := sc) (fn := fn) (fc := fc) hp L7 eL (fun i hi => by
      obtain ⟨_, n, a, b, _, d⟩ := f i hi
      exact ⟨n, a, b, d⟩) (L - 1) 1 0 (Nat.le_refl _) (by omega)
    exact xx_isP1 hp tp (br_f (by decide) ⟨L, fX _ L (by omega) (yy_isP1 hp tp (br_f (by decide) ⟨L, fY _ L (by omega) ⟨rfl, bt_mkR R⟩⟩))⟩)
  · exact xx_isP0 hn (br_t rfl (yy_isP0 hn (br_t rfl ⟨rfl, bt_mkR R⟩)))
theorem bt_47 {x : Int32} (h : (48 : Int32) ≤ x) : ¬ x < 0 ∧ ¬ x ≤ 47 ∧ 47 < x := by
  have a : (47 : Int32) < x := Int32.lt_of_lt_of_le (by decide) h
  exact ⟨Int32.not_lt.mpr (Int32.le_trans (by decide) h), Int32.not_le.mpr a, a⟩
theorem bt_le47 {j : Nat} (h : j < 48) : nI j ≤ 47 ∧ ¬ 47 < nI j := by
  have a : nI j ≤ nI 47 := nI_le (by omega) (by omega)
  exact ⟨a, Int32.not_lt.mpr a⟩
theorem i_vc_state {k : Nat} {u : SX} {v : SY} (I : i_Rel k u v) (hk : k + 6 ≤ 3072) (v1 : Int32) : wpX_state (fun r => wpY_state (fun r' => r' = r ∧ i_Rel (k + 6) u v) v v1) u v1 := by
  obtain ⟨ls, tl, ec, kc, es, tt, se, fr, st, dr, nm, pa, ve, sz, it, sm, hl, th, sp, tb, dl, dn, cc, cv, mn, mc, oc, on, om, op, tr, el, cm, sY, tY, dy, dm, vc, ms, me, cr, hd, hN, ps, la, ey, tn, tm, sn, sc, fn, fc, s, s', t, t', rfl, rfl, R⟩ := I
  unfold wpX_state wpY_state
  rcases pk_ix v1 (n := 48) (by decide) with a | a | ⟨j, hj, rfl⟩
  · exact br_t a (br_t rfl (br_t a ⟨rfl, bt_mkR R⟩))
  · have w := bt_47 a
    exact br_f w.1 (br_t a (br_t rfl (br_f w.1 (br_f w.2.1 ⟨rfl, bt_mkR R⟩))))
  · have ix := bt_ix48 hj
    have w := bt_le47 hj
    exact br_f ix.1 (br_f ix.2.2.2.1 (br_f (by decide) ⟨ix.2.2.2.2.1, br_f ix.1 (br_t w.1 ⟨ix.2.2.2.2.1, rfl, bt_mkR R⟩)⟩))
theorem i_vc_about {k : Nat} {u : SX} {v : SY} (I : i_Rel k u v) (hk : k + 6 ≤ 3072) (v1 : Int32) (v2 : Int32) : wpX_about (fun r => wpY_about (fun r' => r' = r ∧ i_Rel (k + 6) u v) v v1 v2) u v1 v2 := by
  obtain ⟨ls, tl, ec, kc, es, tt, se, fr, st, dr, nm, pa, ve, sz, it, sm, hl, th, sp, tb, dl, dn, cc, cv, mn, mc, oc, on, om, op, tr, el, cm, sY, tY, dy, dm, vc, ms, me, cr, hd, hN, ps, la, ey, tn, tm, sn, sc, fn, fc, s, s', t, t', rfl, rfl, R⟩ := I
  unfold wpX_about wpY_about
  rcases pk_ix v1 (n := 48) (by decide) with a | a | ⟨j, hj, rfl⟩
  · exact br_t a (br_t rfl (br_t a ⟨rfl, bt_mkR R⟩))
  · have w := bt_47 a
    exact br_f w.1 (br_t a (br_t rfl (br_f w.1 (br_t w.2.2 ⟨rfl, bt_mkR R⟩))))
  · have ix := bt_ix48 hj
    have w := bt_le47 hj
    have i1 := ix.2.2.2.2.1
    refine br_f ix.1 (br_f ix.2.2.2.1 (br_f (by decide) ⟨i1, ?_⟩))
    rw [ix.2.2.2.2.2.1]
    by_cases z : st j = 0
    · exact br_t z (br_f ix.1 (br_f w.2 ⟨i1, br_t z ⟨rfl, bt_mkR R⟩⟩))
    · refine br_f z ?_
      by_cases w0 : v2 < 0
      · exact br_t w0 (br_f ix.1 (br_f w.2 ⟨i1, br_f z (br_t w0 ⟨rfl, bt_mkR R⟩)⟩))
      by_cases w4 : 4 < v2
      · exact br_f w0 (br_t w4 (br_f ix.1 (br_f w.2 ⟨i1, br_f z (br_f w0 (br_t w4 ⟨rfl, bt_mkR R⟩))⟩)))
      refine br_f w0 (br_f w4 ?_)
      by_cases e0 : v2 = 0
      · exact br_t e0 ⟨i1, br_f ix.1 (br_f w.2 ⟨i1, br_f z (br_f w0 (br_f w4 (br_t e0 ⟨i1, rfl, bt_mkR R⟩)))⟩)⟩
      by_cases e1 : v2 = 1
      · refine br_f e0 (br_t e1 ⟨i1, br_f ix.1 (br_f w.2 ⟨i1, br_f z (br_f w0 (br_f w4 (br_f e0 (br_t e1 ⟨i1, ?_⟩))))⟩)⟩)
        exact br_c (fun _ => ⟨i1, rfl, bt_mkR R⟩) (fun d => ⟨((R.1.2.2 j hj).2.2 d).symm, bt_mkR R⟩)
      by_cases e2 : v2 = 2
      · exact br_f e0 (br_f e1 (br_t e2 (xx_childCount (br_f ix.1 (br_f w.2 ⟨i1, br_f z (br_f w0 (br_f w4 (br_f e0 (br_f e1 (br_t e2 (yy_children ⟨rfl, bt_mkR R⟩))))))⟩)))))
      by_cases e3 : v2 = 3
      · exact br_f e0 (br_f e1 (br_f e2 (br_t e3 ⟨i1, br_f ix.1 (br_f w.2 ⟨i1, br_f z (br_f w0 (br_f w4 (br_f e0 (br_f e1 (br_f e2 (br_t e3 ⟨i1, rfl, bt_mkR R⟩))))))⟩)⟩)))
      by_cases e4 : v2 = 4
      · exact br_f e0 (br_f e1 (br_f e2 (br_f e3 (br_t e4 ⟨i1, br_f ix.1 (br_f w.2 ⟨i1, br_f z (br_f w0 (br_f w4 (br_f e0 (br_f e1 (br_f e2 (br_f e3 (br_t e4 ⟨i1, rfl, bt_mkR R⟩)))))))⟩)⟩))))
      · exact br_f e0 (br_f e1 (br_f e2 (br_f e3 (br_f e4 trivial))))
theorem i_vc_exit {k : Nat} {u : SX} {v : SY} (I : i_Rel k u v) (hk : k + 6 ≤ 3072) (v1 : Int32) : wpX_exit (fun r u' => wpY_exit (fun r' v' => r' = r ∧ i_Rel (k + 6) u' v') v v1) u v1 := by
  obtain ⟨ls, tl, ec, kc, es, tt, se, fr, st, dr, nm, pa, ve, sz, it, sm, hl, th, sp, tb, dl, dn, cc, cv, mn, mc, oc, on, om, op, tr, el, cm, sY, tY, dy, dm, vc, ms, me, cr, hd, hN, ps, la, ey, tn, tm, sn, sc, fn, fc, s, s', t, t', rfl, rfl, R⟩ := I
  unfold wpX_exit wpY_exit
  by_cases hn : ∃ q, q < 4 ∧ v1 = nI q ∧ th q ≠ 0
  · obtain ⟨p, hp, rfl, tp⟩ := hn
    have ip := bt_ix4 hp
    have eY := bt_ct_a (P := fun p => ¬ th p = 0) 4 0 (-1)
    refine xx_isP1 hp tp (br_f (by decide) (xx_pc ?_))
    by_cases one : bt_ct (fun p => ¬ th p = 0) 0 4 0 = 1
    · refine br_t one (yy_isP1 hp tp (br_f (by decide) ⟨5, yy_ex_l ?_ 4 0 5 (-1) rfl (by omega) rfl⟩))
      refine br_t (by decide) (br_t ?_ ⟨rfl, bt_mkR R⟩)
      rw [eY, one]; decide
    · have nz : ¬ bt_ct (fun p => ¬ th p = 0) 0 4 (-1) = 0 := by
        intro z
        rw [eY] at z
        exact one (by grind)
      have R' := bt_del (c := p) R
      have ans : bt_ct (fun p => ¬ th p = 0) 0 4 0 = bt_ct (fun q => ¬ upd th p 0 q = 0) 0 4 0 + 1 :=
        bt_ct_d (p := p) tp (by rw [pk_us]; exact fun z => z rfl) (fun j hj => by rw [pk_un hj]) 4 0 0 (by omega) (by omega)
      refine br_f one ⟨ip.2.2.2.2.1, ?_⟩
      rw [ip.2.2.2.2.2.1, bt_n0]
      refine nm_e (xx_sw (bt_wf_R R') (fun st2 hl2 sw => xx_pc (yy_isP1 hp tp (br_f (by decide) ⟨5, yy_ex_l ?_ 4 0 5 (-1) rfl (by omega) rfl⟩))))
      refine br_t (by decide) (br_f nz ⟨ip.2.2.2.2.1, ?_⟩)
      rw [ip.2.2.2.2.2.1, bt_n0]
      refine nm_e (yy_sw R' (fun st3 sw3 => ?_))
      have := bt_sw_u sw3 sw
      subst this
      refine ⟨?_, bt_mkR (bt_upSw R' sw)⟩
      rw [eY, ans]; grind
  · exact xx_isP0 hn (br_t rfl (yy_isP0 hn (br_t rfl ⟨rfl, bt_mkR R⟩)))
end
section
section
variable {ls tl ec kc : Int32} {st dr nm pa ve sz it sm hl th sp tb dl dn cc cv mn mc oc on om op tr el cm : Nat → Int32} {es tt se fr : Int32} {sY tY dy dm vc ms me cr hd hN ps la ey tn tm sn sc fn fc : Nat → Int32} {s s' t t' : Nat → Nat} {dl2 dn2 : Nat → Int32}
theorem bt_wf_T {p L : Nat} (hw : bt_wf th dl sp tb dn cc cv mn oc on s t) (h1 : ∀ q, q ≠ p → dl2 q = dl q) (h2 : ∀ x, (x < 7 * p ∨ 7 * p + 7 ≤ x) → dn2 x = dn x)
    (L7 : L ≤ 7) (eL : dl2 p = nI L) (hn : ∀ i, i < L → ∃ n, n < 48 ∧ dn2 (7 * p + i) = nI n) : bt_wf th dl2 sp tb dn2 cc cv mn oc on s t := by
  intro q hq tq
  obtain ⟨a, b, c, d, ⟨L2, l7, el2, f⟩, g⟩ := hw q hq tq
  refine ⟨a, b, c, d, ?_, g⟩
  by_cases e : q = p
  · subst e; exact ⟨L, L7, eL, hn⟩
  · refine ⟨L2, l7, (h1 q e).trans el2, fun i hi => ?_⟩
    rw [h2 (7 * q + i) (by rcases Nat.lt_or_gt_of_ne e with z | z <;> omega)]
    exact f i hi
theorem xx_cd_l {post : Int32 → SX → Prop} {p L : Nat} {x3 : Int32} (hp : p < 4) (L7 : L ≤ 7) (hw : bt_wf th dl sp tb dn cc cv mn oc on s t) (htr : ∀ i, i < L → ∃ n, n < 48 ∧ tr i = nI n)
    (h : ∀ dn2 st2 hl2 : Nat → Int32, (∀ j, j < L → dn2 (7 * p + j) = tr j) → (∀ x, (x < 7 * p ∨ 7 * p + 7 ≤ x) → dn2 x = dn x) → bt_sw st (bt_H th (upd dl p (nI L)) dn2 cc cv mn oc on s t) st2 → post x3 (ls, nI L, ec, kc, st2, dr, nm, pa, ve, sz, it, sm, hl2, th, sp, tb, upd dl p (nI L), dn2, cc, cv, mn, mc, oc, on, om, op, tr, el, cm)) :
    ∀ (e i n : Nat) (dn2 : Nat → Int32), i + e = L → e < n → (∀ j, j < i → dn2 (7 * p + j) = tr j) → (∀ x, (x < 7 * p ∨ 7 * p + 7 ≤ x) → dn2 x = dn x) → wX_chdir_28 post (nI p) x3 ls (nI L) ec kc n (nI i) st dr nm pa ve sz it sm hl th sp tb dl dn2 cc cv mn mc oc on om op tr el cm := by
  have ip := bt_ix4 hp
  intro e
  induction e with
  | zero =>
    intro i n dn2 hi hn h1 h2
    obtain ⟨n, rfl⟩ : ∃ n', n = n' + 1 := ⟨n - 1, by omega⟩
    have : i = L := by omega
    subst this
    refine br_t (Int32.le_refl _) ⟨ip.2.2.2.2.1, ?_⟩
    rw [ip.2.2.2.2.2.1]
    refine nm_e (xx_sw (bt_wf_T hw (fun q hq => pk_un hq) h2 L7 pk_us (fun j hj => ?_)) (fun st2 hl2 sw => h dn2 st2 hl2 h1 h2 sw))
    rw [h1 j hj]; exact htr j hj
  | succ e ih =>
    intro i n dn2 hi hn h1 h2
    obtain ⟨n, rfl⟩ : ∃ n', n = n' + 1 := ⟨n - 1, by omega⟩
    have ix := bt_ix7 (q := i) (by omega)
    have iy := bt_ix28 (q := 7 * p + i) (by omega)
    have e7 : nI p * 7 + nI i = nI (7 * p + i) := by rw [bt_m7, nI_add]
    refine br_f (nI_ge (by omega) (by omega)) ?_
    rw [e7, iy.2.2.2.2.2.1, ix.2.2.2.2.2.1]
    refine ⟨ix.2.2.2.2.1, iy.2.2.2.2.1, nm_e (nm_r (nI_1 _) (ih (i + 1) n _ (by omega) (by omega) (fun j hj => ?_) (fun x hx => ?_)))⟩
    · by_cases w : j = i
      · rw [w, pk_us]
      · rw [pk_un (by omega)]; exact h1 j (by omega)
    · rw [pk_un (by omega)]; exact h2 x hx
theorem yy_cd_l {post : Int32 → SY → Prop} {p : Nat} {x3 : Int32} (hp : p < 4)
    (hR : ∀ dy2 dm2 : Nat → Int32, (∀ j, j < 7 → dy2 (7 * p + j) = tn j ∧ dm2 (7 * p + j) = tm j) → (∀ x, (x < 7 * p ∨ 7 * p + 7 ≤ x) → dy2 x = dy x ∧ dm2 x = dm x) → bt_R st dr nm pa sz th dl sp tb dn cc cv mn mc oc on om op sY tY dy2 dm2 vc ms me cr hd hN ps la s s' t t')
    (h : ∀ dy2 dm2 st2 : Nat → Int32, bt_R st dr nm pa sz th dl sp tb dn cc cv mn mc oc on om op sY tY dy2 dm2 vc ms me cr hd hN ps la s s' t t' → bt_sw st (bt_H th dl dn cc cv mn oc on s t) st2 → post x3 (ls, es, tt, se, fr, st2, nm, pa, ve, sz, sm, it, dr, th, sY, tY, dl, dy2, dm2, vc, ms, me, cr, hd, hN, ps, la, ey, tn, tm, sn, sc, fn, fc)) :
    ∀ (e i n : Nat) (dy2 dm2 : Nat → Int32), i + e = 7 → e < n → (∀ j, j < i → dy2 (7 * p + j) = tn j ∧ dm2 (7 * p + j) = tm j) → (∀ x, (x < 7 * p ∨ 7 * p + 7 ≤ x) → dy2 x = dy x ∧ dm2 x = dm x) → wY_chdir_50 post (nI p) x3 ls es tt se fr n (nI i) st nm pa ve sz sm it dr th sY tY dl dy2 dm2 vc ms me cr hd hN ps la ey tn tm sn sc fn fc := by
  intro e
  induction e with
  | zero =>
    intro i n dy2 dm2 hi hn h1 h2
    obtain ⟨n, rfl⟩ : ∃ n', n = n' + 1 := ⟨n - 1, by omega⟩
    have : i = 7 := by omega
    subst this
    exact br_t (by decide) (yy_sw (hR dy2 dm2 h1 h2) (fun st2 sw => h dy2 dm2 st2 (hR dy2 dm2 h1 h2) sw))
  | succ e ih =>
    intro i n dy2 dm2 hi hn h1 h2
    obtain ⟨n, rfl⟩ : ∃ n', n = n' + 1 := ⟨n - 1, by omega⟩
    have ix := bt_ix7 (q := i) (by omega)
    have iy := bt_ix28 (q := 7 * p + i) (by omega)
    have e7 : 7 * nI p + nI i = nI (7 * p + i) := by rw [bt_7m, nI_add]
    refine br_f ix.2.2.2.1 ?_
    rw [e7, iy.2.2.2.2.2.1, ix.2.2.2.2.2.1]
    refine ⟨ix.2.2.2.2.1, iy.2.2.2.2.1, nm_e ⟨ix.2.2.2.2.1, iy.2.2.2.2.1, nm_e (nm_r (nI_1 _) (ih (i + 1) n _ _ (by omega) (by omega) (fun j hj => ?_) (fun x hx => ?_)))⟩⟩
    · by_cases w : j = i
      · rw [w, pk_us, pk_us]; exact ⟨rfl, rfl⟩
      · rw [pk_un (by omega), pk_un (by omega)]; exact h1 j (by omega)
    · rw [pk_un (by omega), pk_un (by omega)]; exact h2 x hx
end
theorem i_vc_chdir {k : Nat} {u : SX} {v : SY} (I : i_Rel k u v) (hk : k + 6 ≤ 3072) (v1 : Int32) (v2 : Int32) : wpX_chdir (fun r u' => wpY_chdir (fun r' v' => r' = r ∧ i_Rel (k + 6) u' v') v v1 v2) u v1 v2 := by
  obtain ⟨ls, tl, ec, kc, es, tt, se, fr, st, dr, nm, pa, ve, sz, it, sm, hl, th, sp, tb, dl, dn, cc, cv, mn, mc, oc, on, om, op, tr, el, cm, sY, tY, dy, dm, vc, ms, me, cr, hd, hN, ps, la, ey, tn, tm, sn, sc, fn, fc, s, s', t, t', rfl, rfl, R⟩ := I
  obtain ⟨m, D, rx, dx⟩ := bt_xd v2
  unfold wpX_chdir wpY_chdir
  by_cases hn : (∃ q, q < 4 ∧ v1 = nI q ∧ th q ≠ 0) ∧ bt_g m D
  · obtain ⟨⟨p, hp, rfl, tp⟩, gx⟩ := hn
    obtain ⟨r, L', tr', el2, an, hT2, fX, fY⟩ := ev_R (ls := ls) (tl := tl) (ec := ec) (kc := kc) (st := st) (dr := dr) (nm := nm) (pa := pa) (ve := ve) (sz := sz) (it := it) (sm := sm) (hl := hl) (th := th) (sp := sp) (tb := tb) (dl := dl) (dn := dn) (cc := cc) (cv := cv) (mn := mn) (mc := mc) (oc := oc) (on := on) (om := om) (op := op) (tr := tr) (el := el) (cm := cm) R hp tp rx dx gx
    have ip := bt_ix4 hp
    rcases bt_an2 an with ng | ⟨n, hn, rfl, zn, _⟩
    · exact fX _ (br_f ng (yy_isPath1 hp tp rx dx gx (fun ey2 _ => br_f (by decide) (fY _ _ _ _ _ _ _ _ _ _ _ _ (fun es2 se2 ey3 tn2 tm2 sn2 sc2 ht => br_f ng ⟨rfl, bt_mkR R⟩)))))
    · have i0 : (0 : Int32) ≤ nI n := nI_pos' (by omega)
      have ix := bt_ix48 hn
      by_cases d0 : dr n = 0
      · refine fX _ (br_t i0 ⟨ix.2.2.2.2.1, ?_⟩)
        rw [ix.2.2.2.2.2.1]
        refine br_t d0 (yy_isPath1 hp tp rx dx gx (fun ey2 _ => br_f (by decide) (fY _ _ _ _ _ _ _ _ _ _ _ _ (fun es2 se2 ey3 tn2 tm2 sn2 sc2 ht => br_t i0 ⟨ix.2.2.2.2.1, br_t ?_ ⟨rfl, bt_mkR R⟩⟩))))
        first | exact d0 | (rw [ix.2.2.2.2.2.1]; exact d0)
      · obtain ⟨tn0, tm0, l1, l7, t0, ft⟩ := hT2
        refine fX _ (br_t i0 ⟨ix.2.2.2.2.1, br_f (by rw [ix.2.2.2.2.2.1]; exact d0) ⟨L' + 1, ?_⟩⟩)
        refine xx_cd_l hp l7 (bt_wf_R R) (fun i hi => ?_) (fun dn2 st2 hl2 a1 a2 sw => ?_) L' 0 (L' + 1) dn (by omega) (by omega) (fun j hj => by omega) (fun _ _ => rfl)
        · obtain ⟨_, n', h1, h2, _⟩ := ft i hi
          exact ⟨n', h1, h2⟩
        · refine yy_isPath1 hp tp rx dx gx (fun ey2 _ => br_f (by decide) (fY _ _ _ _ _ _ _ _ _ _ _ _ (fun es2 se2 ey3 tn2 tm2 sn2 sc2 ht => br_t i0 ⟨ix.2.2.2.2.1, br_f (by rw [ix.2.2.2.2.2.1]; exact d0) ⟨ip.2.2.2.2.1, ?_⟩⟩)))
          rw [ip.2.2.2.2.2.1]
          refine nm_e ⟨8, yy_cd_l (sp := sp) (tb := tb) (dn := dn2) (cc := cc) (cv := cv) (mn := mn) (mc := mc) (oc := oc) (on := on) (om := om) (op := op) (s := s) (s' := s') (t := t) (t' := t') hp (fun dy2 dm2 b1 b2 => ?_) (fun dy2 dm2 st3 R3 sw3 => ?_) 7 0 8 dy dm rfl (by omega) (fun j hj => by omega) (fun _ _ => ⟨rfl, rfl⟩)⟩
          · refine bt_upT (p := p) (dl2 := upd dl p (nI L')) (dn2 := dn2) R (fun q hq => pk_un hq) (fun x hx => ⟨a2 x hx, b2 x hx⟩) ⟨L', l1, l7, pk_us, ?_, fun i hi => ?_⟩
            · exact (a1 0 (by omega)).trans t0
            · obtain ⟨u1, n', u2, u3, u4, u5⟩ := ht.2.2.2 i hi
              refine ⟨?_, n', u2, (a1 i hi).trans u3, u4, fun h1 => ?_⟩
              · rw [a1 i hi, (b1 i (by omega)).1]; exact u1
              · rw [(b1 i (by omega)).2]; exact u5 h1
          · have := bt_sw_u sw3 sw
            subst this
            exact ⟨rfl, bt_mkR (bt_upSw R3 sw)⟩
  · exact xx_ev0 rx dx hn (br_f (by decide) (yy_isPath0 rx dx hn (fun es2 ey2 => br_t rfl ⟨rfl, bt_mkR R⟩)))
theorem i_vc_remove {k : Nat} {u : SX} {v : SY} (I : i_Rel k u v) (hk : k + 6 ≤ 3072) (v1 : Int32) (v2 : Int32) : wpX_remove (fun r u' => wpY_remove (fun r' v' => r' = r ∧ i_Rel (k + 6) u' v') v v1 v2) u v1 v2 := by
  obtain ⟨ls, tl, ec, kc, es, tt, se, fr, st, dr, nm, pa, ve, sz, it, sm, hl, th, sp, tb, dl, dn, cc, cv, mn, mc, oc, on, om, op, tr, el, cm, sY, tY, dy, dm, vc, ms, me, cr, hd, hN, ps, la, ey, tn, tm, sn, sc, fn, fc, s, s', t, t', rfl, rfl, R⟩ := I
  obtain ⟨m, D, rx, dx⟩ := bt_xd v2
  unfold wpX_remove wpY_remove
  by_cases hn : (∃ q, q < 4 ∧ v1 = nI q ∧ th q ≠ 0) ∧ bt_g m D
  · obtain ⟨⟨p, hp, rfl, tp⟩, gx⟩ := hn
    obtain ⟨r, L', tr', el2, an, hT2, fX, fY⟩ := ev_R (ls := ls) (tl := tl) (ec := ec) (kc := kc) (st := st) (dr := dr) (nm := nm) (pa := pa) (ve := ve) (sz := sz) (it := it) (sm := sm) (hl := hl) (th := th) (sp := sp) (tb := tb) (dl := dl) (dn := dn) (cc := cc) (cv := cv) (mn := mn) (mc := mc) (oc := oc) (on := on) (om := om) (op := op) (tr := tr) (el := el) (cm := cm) R hp tp rx dx gx
    rcases bt_an2 an with ng | ⟨n, hn, rfl, zn, _⟩
    · exact fX _ (br_f ng (yy_isPath1 hp tp rx dx gx (fun ey2 _ => br_f (by decide) (fY _ _ _ _ _ _ _ _ _ _ _ _ (fun es2 se2 ey3 tn2 tm2 sn2 sc2 ht => br_f ng ⟨rfl, bt_mkR R⟩)))))
    · have i0 : (0 : Int32) ≤ nI n := nI_pos' (by omega)
      have ix := bt_ix48 hn
      by_cases n3 : n < 3
      · have g3 : ¬ (3 : Int32) ≤ nI n := nI_ge (b := 3) n3 (by decide)
        exact fX _ (br_t i0 (br_f g3 (yy_isPath1 hp tp rx dx gx (fun ey2 _ => br_f (by decide) (fY _ _ _ _ _ _ _ _ _ _ _ _ (fun es2 se2 ey3 tn2 tm2 sn2 sc2 ht => br_t i0 (br_f g3 ⟨rfl, bt_mkR R⟩)))))))
      · have g3 : (3 : Int32) ≤ nI n := nI_le (a := 3) (by omega) (by omega)
        by_cases c0 : bt_ct (fun k => st k = 1 ∧ pa k = nI n) 3 45 0 ≤ 0
        · obtain ⟨q, hq, eq⟩ := (R.1.2.2 n hn).1 (by omega) zn
          have iq := bt_ix48 hq
          have R' : bt_R (upd st n 2) dr nm pa sz th dl sp tb dn cc cv mn mc oc on om op sY tY dy dm vc ms me cr hd hN ps la s s' t t' := by
            refine bt_upN R ⟨R.1.1, fun k hk => ?_, fun k hk => ⟨fun h3 h0 => ?_, (R.1.2.2 k hk).2⟩⟩ (fun k hk hH hz => ⟨?_, rfl, rfl, fun _ z hz6 e => ⟨z, Nat.le_refl _, hz6, e⟩⟩)
            · rw [pk_un (by omega)]; exact R.1.2.1 k hk
            · refine (R.1.2.2 k hk).1 h3 ?_
              by_cases e : k = n
              · rw [e]; exact zn
              · rw [pk_un e] at h0; exact h0
            · by_cases e : k = n
              · rw [e, pk_us]; decide
              · rw [pk_un e]; exact hz
          refine fX _ (br_t i0 (br_t g3 (xx_childCount (br_t c0 ⟨ix.2.2.2.2.1, ?_⟩))))
          rw [ix.2.2.2.2.2.1, eq, iq.2.2.2.2.2.1]
          refine nm_e ⟨ix.2.2.2.2.1, iq.2.2.2.2.1, iq.2.2.2.2.1, nm_e (xx_sw (bt_wf_R R') (fun st2 hl2 sw => ?_))⟩
          refine yy_isPath1 hp tp rx dx gx (fun ey2 _ => br_f (by decide) (fY _ _ _ _ _ _ _ _ _ _ _ _ (fun es2 se2 ey3 tn2 tm2 sn2 sc2 ht => br_t i0 (br_t g3 (yy_children (br_t c0 ⟨ix.2.2.2.2.1, ?_⟩))))))
          rw [ix.2.2.2.2.2.1, eq, iq.2.2.2.2.2.1]
          refine nm_e ⟨ix.2.2.2.2.1, iq.2.2.2.2.1, iq.2.2.2.2.1, nm_e (yy_sw R' (fun st3 sw3 => ?_))⟩
          have := bt_sw_u sw3 sw
          subst this
          exact ⟨rfl, bt_mkR (bt_upSw R' sw)⟩
        · exact fX _ (br_t i0 (br_t g3 (xx_childCount (br_f c0 (yy_isPath1 hp tp rx dx gx (fun ey2 _ => br_f (by decide) (fY _ _ _ _ _ _ _ _ _ _ _ _ (fun es2 se2 ey3 tn2 tm2 sn2 sc2 ht => br_t i0 (br_t g3 (yy_children (br_f c0 ⟨rfl, bt_mkR R⟩)))))))))))
  · exact xx_ev0 rx dx hn (br_f (by decide) (yy_isPath0 rx dx hn (fun es2 ey2 => br_t rfl ⟨rfl, bt_mkR R⟩)))
end
section
section
variable {ls tl ec kc : Int32} {st dr nm pa ve sz it sm hl th sp tb dl dn cc cv mn mc oc on om op tr el cm : Nat → Int32} {es tt se fr : Int32} {sY tY dy dm vc ms me cr hd hN ps la ey tn tm sn sc fn fc : Nat → Int32} {s s' t t' : Nat → Nat}
theorem slot_R (R : bt_R st dr nm pa sz th dl sp tb dn cc cv mn mc oc on om op sY tY dy dm vc ms me cr hd hN ps la s s' t t') (v1 v2 : Int32) :
    ((∀ post : Int32 → Prop, post (-1) → wpX_openSlot post (ls, tl, ec, kc, st, dr, nm, pa, ve, sz, it, sm, hl, th, sp, tb, dl, dn, cc, cv, mn, mc, oc, on, om, op, tr, el, cm) v1 v2) ∧ (∀ post : Int32 → Prop, post (-1) → wpY_cellOf post (ls, es, tt, se, fr, st, nm, pa, ve, sz, sm, it, dr, th, sY, tY, dl, dy, dm, vc, ms, me, cr, hd, hN, ps, la, ey, tn, tm, sn, sc, fn, fc) v1 v2)) ∨
    ∃ p d c, p < 4 ∧ d < 4 ∧ th p ≠ 0 ∧ t p < 4 ∧ t' p < 4 ∧ 1 ≤ c ∧ c ≤ 5 ∧ oc (4 * t p + d) = nI c ∧ hd (4 * t' p + d) = nI c ∧
      (∀ post : Int32 → Prop, post (nI (4 * t p + d)) → wpX_openSlot post (ls, tl, ec, kc, st, dr, nm, pa, ve, sz, it, sm, hl, th, sp, tb, dl, dn, cc, cv, mn, mc, oc, on, om, op, tr, el, cm) v1 v2) ∧ (∀ post : Int32 → Prop, post (nI (4 * t' p + d)) → wpY_cellOf post (ls, es, tt, se, fr, st, nm, pa, ve, sz, sm, it, dr, th, sY, tY, dl, dy, dm, vc, ms, me, cr, hd, hN, ps, la, ey, tn, tm, sn, sc, fn, fc) v1 v2) := by
  unfold wpX_openSlot wpY_cellOf
  by_cases hn : ∃ q, q < 4 ∧ v1 = nI q ∧ th q ≠ 0
  · obtain ⟨p, hp, rfl, tp⟩ := hn
    have ip := bt_ix4 hp
    by_cases a : v2 < 0
    · exact Or.inl ⟨fun post h => xx_isP1 hp tp (br_f (by decide) (br_t a h)), fun post h => yy_isP1 hp tp (br_f (by decide) (br_t a h))⟩
    rcases pk_ix v2 (n := 4) (by decide) with b | b | ⟨d, hd4, rfl⟩
    · exact absurd b a
    · have b1 : ¬ v2 < 4 := Int32.not_lt.mpr b
      have b2 : 3 < v2 := Int32.lt_of_lt_of_le (by decide) b
      exact Or.inl ⟨fun post h => xx_isP1 hp tp (br_f (by decide) (br_f a (br_f b1 h))), fun post h => yy_isP1 hp tp (br_f (by decide) (br_f a (br_t b2 h)))⟩
    · have jd := bt_ix4 hd4
      have b1 : nI d < 4 := jd.2.2.1
      have b2 : ¬ (3 : Int32) < nI d := Int32.not_lt.mpr (nI_le (b := 3) (by omega) (by decide))
      obtain ⟨ta, ha, tb0, hb⟩ := R.2.2.2.2.1.1 p hp
      obtain ⟨c, c5, u1, u2, _⟩ := (R.2.2.2.2.2 p hp tp).2.2 d hd4
      have ix := bt_ix16 (q := 4 * t p + d) (by omega)
      have iy := bt_ix16 (q := 4 * t' p + d) (by omega)
      have ex : tb (nI p).toNatClampNeg * 4 + nI d = nI (4 * t p + d) := by rw [ip.2.2.2.2.2.1, ta, bt_m4, nI_add]
      have ey0 : 4 * tY (nI p).toNatClampNeg + nI d = nI (4 * t' p + d) := by rw [ip.2.2.2.2.2.1, tb0, bt_4m, nI_add]
      by_cases z : c = 0
      · subst z
        refine Or.inl ⟨fun post h => xx_isP1 hp tp (br_f (by decide) (br_f a (br_t b1 ⟨ip.2.2.2.2.1, nm_r ex ⟨ix.2.2.2.2.1, br_t ?_ h⟩⟩))), fun post h => yy_isP1 hp tp (br_f (by decide) (br_f a (br_f b2 ⟨ip.2.2.2.2.1, ?_⟩)))⟩
        · rw [ix.2.2.2.2.2.1, u1]; decide
        · rw [ey0, iy.2.2.2.2.2.1]
          exact ⟨iy.2.2.2.2.1, br_t u2 h⟩
      · refine Or.inr ⟨p, d, c, hp, hd4, tp, ha, hb, by omega, c5, u1, u2, fun post h => xx_isP1 hp tp (br_f (by decide) (br_f a (br_t b1 ⟨ip.2.2.2.2.1, nm_r ex ⟨ix.2.2.2.2.1, br_f ?_ h⟩⟩))), fun post h => yy_isP1 hp tp (br_f (by decide) (br_f a (br_f b2 ⟨ip.2.2.2.2.1, ?_⟩)))⟩
        · rw [ix.2.2.2.2.2.1, u1]; exact nI_nle (by omega) (by omega)
        · rw [ey0, iy.2.2.2.2.2.1]
          exact ⟨iy.2.2.2.2.1, br_f (by rw [u2]; exact nI_ne0 (by omega) (by omega)) ⟨ip.2.2.2.2.1, h⟩⟩
  · exact Or.inl ⟨fun post h => xx_isP0 hn (br_t rfl h), fun post h => yy_isP0 hn (br_t rfl h)⟩
theorem xx_isDir {post : Int32 → Prop} {i n : Nat} (hi : i < 16) (en : on (5 * i) = nI n) (hn : n < 48) (hb : bt_B (dr n)) (h : post (dr n)) : wpX_isOfDirectories post (ls, tl, ec, kc, st, dr, nm, pa, ve, sz, it, sm, hl, th, sp, tb, dl, dn, cc, cv, mn, mc, oc, on, om, op, tr, el, cm) (nI i) := by
  have ix := bt_ix80 (q := 5 * i) (by omega)
  have iy := bt_ix48 hn
  unfold wpX_isOfDirectories
  show vp_in (nI i * 5) 80 ∧ (vp_in (on (nI i * 5).toNatClampNeg) 48 ∧ (narrow .boolean (.int (dr (on (nI i * 5).toNatClampNeg).toNatClampNeg)) = .int (dr (on (nI i * 5).toNatClampNeg).toNatClampNeg) ∧ (post (dr (on (nI i * 5).toNatClampNeg).toNatClampNeg))))
  rw [bt_m5, ix.2.2.2.2.2.1, en, iy.2.2.2.2.2.1]
  exact ⟨ix.2.2.2.2.1, iy.2.2.2.2.1, bt_narB hb, h⟩
end
theorem i_vc_close {k : Nat} {u : SX} {v : SY} (I : i_Rel k u v) (hk : k + 6 ≤ 3072) (v1 : Int32) (v2 : Int32) : wpX_close (fun r u' => wpY_close (fun r' v' => r' = r ∧ i_Rel (k + 6) u' v') v v1 v2) u v1 v2 := by
  obtain ⟨ls, tl, ec, kc, es, tt, se, fr, st, dr, nm, pa, ve, sz, it, sm, hl, th, sp, tb, dl, dn, cc, cv, mn, mc, oc, on, om, op, tr, el, cm, sY, tY, dy, dm, vc, ms, me, cr, hd, hN, ps, la, ey, tn, tm, sn, sc, fn, fc, s, s', t, t', rfl, rfl, R⟩ := I
  unfold wpX_close wpY_close
  rcases slot_R (ls := ls) (tl := tl) (ec := ec) (kc := kc) (st := st) (dr := dr) (nm := nm) (pa := pa) (ve := ve) (sz := sz) (it := it) (sm := sm) (hl := hl) (th := th) (sp := sp) (tb := tb) (dl := dl) (dn := dn) (cc := cc) (cv := cv) (mn := mn) (mc := mc) (oc := oc) (on := on) (om := om) (op := op) (tr := tr) (el := el) (cm := cm) (es := es) (tt := tt) (se := se) (fr := fr) (sY := sY) (tY := tY) (dy := dy) (dm := dm) (vc := vc) (ms := ms) (me := me) (cr := cr) (hd := hd) (hN := hN) (ps := ps) (la := la) (ey := ey) (tn := tn) (tm := tm) (sn := sn) (sc := sc) (fn := fn) (fc := fc) R v1 v2 with ⟨fX, fY⟩ | ⟨p, d, c, hp, hd4, tp, ha, hb, c1, c5, u1, u2, fX, fY⟩
  · exact fX _ (br_t rfl (fY _ (br_f (by decide) ⟨rfl, bt_mkR R⟩)))
  · have ix := bt_ix16 (q := 4 * t p + d) (by omega)
    have iy := bt_ix16 (q := 4 * t' p + d) (by omega)
    have R' : bt_R st dr nm pa sz th dl sp tb dn cc cv mn mc (upd oc (4 * t p + d) 0) on om op sY tY dy dm vc ms me cr (upd hd (4 * t' p + d) 0) hN ps la s s' t t' := by
      refine bt_upD (p := p) (k := d) R hp hd4 tp (fun x hx => ⟨pk_un hx, rfl, rfl⟩) (fun _ _ => rfl) (fun x hx => ⟨pk_un hx, rfl, rfl⟩) (fun _ _ => rfl) ⟨0, by omega, pk_us, pk_us, fun m hm => by omega, fun h => by omega⟩
    refine fX _ (br_f ix.2.2.2.2.2.2 ⟨ix.2.2.2.2.1, ?_⟩)
    rw [ix.2.2.2.2.2.1]
    refine nm_e (xx_sw (bt_wf_R R') (fun st2 hl2 sw => fY _ (br_t iy.2.1 ⟨iy.2.2.2.2.1, ?_⟩)))
    rw [iy.2.2.2.2.2.1]
    refine nm_e (yy_sw R' (fun st3 sw3 => ?_))
    have := bt_sw_u sw3 sw
    subst this
    exact ⟨rfl, bt_mkR (bt_upSw R' sw)⟩
theorem i_vc_seek {k : Nat} {u : SX} {v : SY} (I : i_Rel k u v) (hk : k + 6 ≤ 3072) (v1 : Int32) (v2 : Int32) (v3 : Int32) : wpX_seek (fun r u' => wpY_seek (fun r' v' => r' = r ∧ i_Rel (k + 6) u' v') v v1 v2 v3) u v1 v2 v3 := by
  obtain ⟨ls, tl, ec, kc, es, tt, se, fr, st, dr, nm, pa, ve, sz, it, sm, hl, th, sp, tb, dl, dn, cc, cv, mn, mc, oc, on, om, op, tr, el, cm, sY, tY, dy, dm, vc, ms, me, cr, hd, hN, ps, la, ey, tn, tm, sn, sc, fn, fc, s, s', t, t', rfl, rfl, R⟩ := I
  rcases slot_R (ls := ls) (tl := tl) (ec := ec) (kc := kc) (st := st) (dr := dr) (nm := nm) (pa := pa) (ve := ve) (sz := sz) (it := it) (sm := sm) (hl := hl) (th := th) (sp := sp) (tb := tb) (dl := dl) (dn := dn) (cc := cc) (cv := cv) (mn := mn) (mc := mc) (oc := oc) (on := on) (om := om) (op := op) (tr := tr) (el := el) (cm := cm) (es := es) (tt := tt) (se := se) (fr := fr) (sY := sY) (tY := tY) (dy := dy) (dm := dm) (vc := vc) (ms := ms) (me := me) (cr := cr) (hd := hd) (hN := hN) (ps := ps) (la := la) (ey := ey) (tn := tn) (tm := tm) (sn := sn) (sc := sc) (fn := fn) (fc := fc) R v1 v2 with ⟨fX, fY⟩ | ⟨p, d, c, hp, hd4, tp, ha, hb, c1, c5, u1, u2, fX, fY⟩
  · unfold wpX_seek wpY_seek
    exact fX _ (br_t rfl (fY _ (br_t (by decide) ⟨rfl, bt_mkR R⟩)))
  · have ix := bt_ix16 (q := 4 * t p + d) (by omega)
    have iy := bt_ix16 (q := 4 * t' p + d) (by omega)
    have jx := bt_ix80 (q := 5 * (4 * t p + d)) (by omega)
    have jy := bt_ix80 (q := 5 * (4 * t' p + d)) (by omega)
    obtain ⟨c', c5', w1, w2, w3, w4⟩ := (R.2.2.2.2.2 p hp tp).2.2 d hd4
    have ec0 : c' = c := bt_inj (by omega) (by omega) (w1.symm.trans u1)
    subst ec0
    obtain ⟨n, hn, en, kd⟩ := w4 c1
    have en' : hN (5 * (4 * t' p + d)) = nI n := (w3 0 (by omega)).1.symm.trans en
    have im := bt_ix48 hn
    have mv : ∀ q, (dr n ≠ 0 → q = 0) → (dr n = 0 → ∃ z, q ≤ z ∧ z ≤ 6 ∧ sz n = nI z) → bt_R st dr nm pa sz th dl sp tb dn cc cv mn mc oc on (upd om (4 * t p + d) 0) (upd op (4 * t p + d) (nI q)) sY tY dy dm vc ms me cr hd hN (upd ps (4 * t' p + d) (nI q)) (upd la (4 * t' p + d) 0) s s' t t' := by
      intro q q1 q2
      refine bt_upD (p := p) (k := d) R hp hd4 tp (fun x hx => ⟨rfl, pk_un hx, pk_un hx⟩) (fun _ _ => rfl) (fun x hx => ⟨rfl, pk_un hx, pk_un hx⟩) (fun _ _ => rfl) ⟨c', c5', w1, w2, w3, fun _ => ⟨n, hn, en, ?_⟩⟩
      rcases kd with ⟨y1, _⟩ | ⟨y1, _⟩
      · refine Or.inl ⟨y1, 0, by omega, pk_us, ?_, ?_⟩
        · rw [pk_us, q1 y1]
        · rw [pk_us, pk_us, q1 y1]; rfl
      · obtain ⟨z, z1, z2, z3⟩ := q2 y1
        exact Or.inr ⟨y1, q, z, z1, z2, z3, pk_us, pk_us⟩
    have fin : ∀ (g : Nat), g ≤ 6 → (dr n ≠ 0 → g = 0) → (dr n = 0 → sz n = nI g) →
        (∀ post : Int32 → SX → Prop, (v3 < 0 → post 0 (ls, tl, ec, kc, st, dr, nm, pa, ve, sz, it, sm, hl, th, sp, tb, dl, dn, cc, cv, mn, mc, oc, on, om, op, tr, el, cm)) → (¬ v3 < 0 → ¬ v3 ≤ nI g → post 0 (ls, tl, ec, kc, st, dr, nm, pa, ve, sz, it, sm, hl, th, sp, tb, dl, dn, cc, cv, mn, mc, oc, on, om, op, tr, el, cm)) → (∀ q, q ≤ g → v3 = nI q → post 1 (ls, tl, ec, kc, st, dr, nm, pa, ve, sz, it, sm, hl, th, sp, tb, dl, dn, cc, cv, mn, mc, oc, on, upd om (4 * t p + d) 0, upd op (4 * t p + d) (nI q), tr, el, cm)) → wX_seek_43 post v3 (nI (4 * t p + d)) (nI g) ls tl ec kc st dr nm pa ve sz it sm hl th sp tb dl dn cc cv mn mc oc on om op tr el cm) ∧
        (∀ post : Int32 → SY → Prop, (¬ v3 ≤ nI g → post 0 (ls, es, tt, se, fr, st, nm, pa, ve, sz, sm, it, dr, th, sY, tY, dl, dy, dm, vc, ms, me, cr, hd, hN, ps, la, ey, tn, tm, sn, sc, fn, fc)) → (∀ q, q ≤ g → v3 = nI q → post 1 (ls, es, tt, se, fr, st, nm, pa, ve, sz, sm, it, dr, th, sY, tY, dl, dy, dm, vc, ms, me, cr, hd, hN, upd ps (4 * t' p + d) (nI q), upd la (4 * t' p + d) 0, ey, tn, tm, sn, sc, fn, fc)) → ¬ v3 < 0 → wY_seek_53 post v3 (nI (4 * t' p + d)) (nI g) v3 ls es tt se fr st nm pa ve sz sm it dr th sY tY dl dy dm vc ms me cr hd hN ps la ey tn tm sn sc fn fc) := by
      intro g g6 _ _
      have key : ¬ v3 < 0 → v3 ≤ nI g → ∃ q, q ≤ g ∧ v3 = nI q := by
        intro a b
        obtain ⟨q, hq, e⟩ := nI_of a
        rw [e, nI_leI hq (by omega)] at b
        exact ⟨q, b, e⟩
      refine ⟨fun post p1 p2 p3 => br_c p1 (fun a => br_c (fun b => ⟨ix.2.2.2.2.1, ?_⟩) (fun b => p2 a b)), fun post p2 p3 a => br_c (fun b => ⟨iy.2.2.2.2.1, ?_⟩) (fun b => p2 b)⟩
      · obtain ⟨q, hq, e⟩ := key a b
        rw [ix.2.2.2.2.2.1, e]
        exact nm_e ⟨ix.2.2.2.2.1, nm_e (p3 q hq e)⟩
      · obtain ⟨q, hq, e⟩ := key a b
        rw [iy.2.2.2.2.2.1, e]
        exact nm_e ⟨iy.2.2.2.2.1, nm_e (p3 q hq e)⟩
    -- the greatest
    have hg : ∃ g, g ≤ 6 ∧ (dr n ≠ 0 → g = 0) ∧ (dr n = 0 → sz n = nI g) := by
      by_cases y : dr n = 0
      · obtain ⟨z, z6, ez⟩ := (R.1.2.2 n hn).2.1 y
        exact ⟨z, z6, fun w => absurd y w, fun _ => ez⟩
      · exact ⟨0, by omega, fun _ => rfl, fun w => absurd w y⟩
    obtain ⟨g, g6, g0, gz⟩ := hg
    obtain ⟨FX, FY⟩ := fin g g6 g0 gz
    have toX : ∀ post : Int32 → SX → Prop, wX_seek_43 post v3 (nI (4 * t p + d)) (nI g) ls tl ec kc st dr nm pa ve sz it sm hl th sp tb dl dn cc cv mn mc oc on om op tr el cm → wpX_seek post (ls, tl, ec, kc, st, dr, nm, pa, ve, sz, it, sm, hl, th, sp, tb, dl, dn, cc, cv, mn, mc, oc, on, om, op, tr, el, cm) v1 v2 v3 := by
      intro post h
      unfold wpX_seek
      refine fX _ (br_f ix.2.2.2.2.2.2 (xx_isDir (by omega) en hn (R.1.1 n) (br_c (fun y => ?_) (fun y => ?_))))
      · rw [bt_m5, jx.2.2.2.2.2.1, en, im.2.2.2.2.2.1, gz y]
        exact ⟨jx.2.2.2.2.1, im.2.2.2.2.1, h⟩
      · have := g0 y
        subst this
        exact h
    have toY : ∀ post : Int32 → SY → Prop, (v3 < 0 → post 0 (ls, es, tt, se, fr, st, nm, pa, ve, sz, sm, it, dr, th, sY, tY, dl, dy, dm, vc, ms, me, cr, hd, hN, ps, la, ey, tn, tm, sn, sc, fn, fc)) → (¬ v3 < 0 → wY_seek_53 post v3 (nI (4 * t' p + d)) (nI g) v3 ls es tt se fr st nm pa ve sz sm it dr th sY tY dl dy dm vc ms me cr hd hN ps la ey tn tm sn sc fn fc) → wpY_seek post (ls, es, tt, se, fr, st, nm, pa, ve, sz, sm, it, dr, th, sY, tY, dl, dy, dm, vc, ms, me, cr, hd, hN, ps, la, ey, tn, tm, sn, sc, fn, fc) v1 v2 v3 := by
      intro post h0 h
      unfold wpY_seek
      refine fY _ (br_f iy.1 (br_c h0 (fun a => ?_)))
      rw [bt_5m, jy.2.2.2.2.2.1, en', im.2.2.2.2.2.1]
      refine ⟨jy.2.2.2.2.1, im.2.2.2.2.1, br_c (fun y => ⟨jy.2.2.2.2.1, im.2.2.2.2.1, ?_⟩) (fun y => ?_)⟩
      · rw [gz y]; exact h a
      · have := g0 y
        subst this
        exact h a
    refine toX _ (FX _ (fun a => ?_) (fun a b => ?_) (fun q hq e => ?_))
    · exact toY _ (fun _ => ⟨rfl, bt_mkR R⟩) (fun z => absurd a z)
    · exact toY _ (fun z => absurd z a) (fun _ => FY _ (fun _ => ⟨rfl, bt_mkR R⟩) (fun q hq e => absurd (by rw [e]; exact nI_le hq (by omega)) b) a)
    · have a : ¬ v3 < 0 := by rw [e]; exact nI_pos (by omega)
      refine toY _ (fun z => absurd z a) (fun _ => FY _ (fun z => absurd (by rw [e]; exact nI_le hq (by omega)) z) (fun q2 hq2 e2 => ?_) a)
      have : q2 = q := bt_inj (by omega) (by omega) (e2.symm.trans e)
      subst this
      refine ⟨rfl, bt_mkR (mv q2 (fun y => by have := g0 y; omega) (fun y => ⟨g, hq, g6, gz y⟩))⟩
end
section
theorem bt_lt6 {q : Nat} (h : q < 2 ^ 31) : nI q < 6 ↔ q < 6 := nI_ltI (b := 6) h (by decide)
theorem bt_e6 {m : Nat} (h : m < 2 ^ 31) : nI m = 6 ↔ m = 6 := nI_eq (b := 6) h (by decide)
theorem i_vc_write {k : Nat} {u : SX} {v : SY} (I : i_Rel k u v) (hk : k + 6 ≤ 3072) (v1 : Int32) (v2 : Int32) (v3 : Int32) : wpX_write (fun r u' => wpY_write (fun r' v' => r' = r ∧ i_Rel (k + 6) u' v') v v1 v2 v3) u v1 v2 v3 := by
  obtain ⟨ls, tl, ec, kc, es, tt, se, fr, st, dr, nm, pa, ve, sz, it, sm, hl, th, sp, tb, dl, dn, cc, cv, mn, mc, oc, on, om, op, tr, el, cm, sY, tY, dy, dm, vc, ms, me, cr, hd, hN, ps, la, ey, tn, tm, sn, sc, fn, fc, s, s', t, t', rfl, rfl, R⟩ := I
  unfold wpX_write wpY_write
  rcases slot_R (ls := ls) (tl := tl) (ec := ec) (kc := kc) (st := st) (dr := dr) (nm := nm) (pa := pa) (ve := ve) (sz := sz) (it := it) (sm := sm) (hl := hl) (th := th) (sp := sp) (tb := tb) (dl := dl) (dn := dn) (cc := cc) (cv := cv) (mn := mn) (mc := mc) (oc := oc) (on := on) (om := om) (op := op) (tr := tr) (el := el) (cm := cm) (es := es) (tt := tt) (se := se) (fr := fr) (sY := sY) (tY := tY) (dy := dy) (dm := dm) (vc := vc) (ms := ms) (me := me) (cr := cr) (hd := hd) (hN := hN) (ps := ps) (la := la) (ey := ey) (tn := tn) (tm := tm) (sn := sn) (sc := sc) (fn := fn) (fc := fc) R v1 v2 with ⟨fX, fY⟩ | ⟨p, d, c, hp, hd4, tp, ha, hb, c1, c5, u1, u2, fX, fY⟩
  · exact fX _ (br_t rfl (fY _ (br_t (by decide) ⟨rfl, bt_mkR R⟩)))
  · have ix := bt_ix16 (q := 4 * t p + d) (by omega)
    have iy := bt_ix16 (q := 4 * t' p + d) (by omega)
    have jx := bt_ix80 (q := 5 * (4 * t p + d)) (by omega)
    have jy := bt_ix80 (q := 5 * (4 * t' p + d)) (by omega)
    obtain ⟨c', c5', w1, w2, w3, w4⟩ := (R.2.2.2.2.2 p hp tp).2.2 d hd4
    have ec0 : c' = c := bt_inj (by omega) (by omega) (w1.symm.trans u1)
    subst ec0
    obtain ⟨n, hn, en, kd⟩ := w4 c1
    have en' : hN (5 * (4 * t' p + d)) = nI n := (w3 0 (by omega)).1.symm.trans en
    have im := bt_ix48 hn
    rcases kd with ⟨y1, _⟩ | ⟨y1, q, z, qz, z6, ez, eo, ep⟩
    · refine fX _ (br_f ix.2.2.2.2.2.2 (xx_isDir (by omega) en hn (R.1.1 n) (br_f y1 (fY _ (br_f iy.1 ?_)))))
      rw [bt_5m, jy.2.2.2.2.2.1, en', im.2.2.2.2.2.1]
      exact ⟨jy.2.2.2.2.1, im.2.2.2.2.1, br_f y1 ⟨rfl, bt_mkR R⟩⟩
    · -- Y up to the position
      have toY : ∀ post : Int32 → SY → Prop, ((nI q = 6 → post (-6) (ls, es, tt, se, fr, st, nm, pa, ve, sz, sm, it, dr, th, sY, tY, dl, dy, dm, vc, ms, me, cr, hd, hN, ps, la, ey, tn, tm, sn, sc, fn, fc)) ∧ (¬ nI q = 6 → (vp_in (nI (4 * t' p + d)) 16 ∧ (vp_in (nI (6 * n + q)) 288 ∧ ∀ it2, it2 = upd it (6 * n + q) v3 → (vp_in (nI (4 * t' p + d)) 16 ∧ (vp_in (nI (4 * t' p + d)) 16 ∧ ∀ ps2, ps2 = upd ps (4 * t' p + d) (nI (q + 1)) → (vp_in (nI (4 * t' p + d)) 16 ∧ (vp_in (nI n) 48 ∧ ((ps2 (4 * t' p + d) ≤ nI z → wY_write_119 post (nI (4 * t' p + d)) (nI n) ls es tt se fr st nm pa ve sz sm it2 dr th sY tY dl dy dm vc ms me cr hd hN ps2 la ey tn tm sn sc fn fc) ∧ (¬ ps2 (4 * t' p + d) ≤ nI z → (vp_in (nI (4 * t' p + d)) 16 ∧ (vp_in (nI n) 48 ∧ ∀ sz2, sz2 = upd sz n (ps2 (4 * t' p + d)) → wY_write_119 post (nI (4 * t' p + d)) (nI n) ls es tt se fr st nm pa ve sz2 sm it2 dr th sY tY dl dy dm vc ms me cr hd hN ps2 la ey tn tm sn sc fn fc)))))))))))) →
          wpY_write post (ls, es, tt, se, fr, st, nm, pa, ve, sz, sm, it, dr, th, sY, tY, dl, dy, dm, vc, ms, me, cr, hd, hN, ps, la, ey, tn, tm, sn, sc, fn, fc) v1 v2 v3 := by
        intro post h
        unfold wpY_write
        refine fY _ (br_f iy.1 ?_)
        rw [bt_5m, jy.2.2.2.2.2.1, en', im.2.2.2.2.2.1]
        refine ⟨jy.2.2.2.2.1, im.2.2.2.2.1, br_t y1 ⟨jy.2.2.2.2.1, nm_e ⟨iy.2.2.2.2.1, ?_⟩⟩⟩
        by_cases q6 : q = 6
        · subst q6
          rw [iy.2.2.2.2.2.1, ep]
          exact br_t rfl (h.1 rfl)
        have q6' : q < 6 := by omega
        have e6 : 6 * nI n + nI q = nI (6 * n + q) := by rw [bt_6m, nI_add]
        have i288 := bt_ix288 (q := 6 * n + q) (by omega)
        rw [iy.2.2.2.2.2.1, ep, e6, i288.2.2.2.2.2.1, im.2.2.2.2.2.1, ez, nI_1]
        exact h
      by_cases q6 : q = 6
      · subst q6
        refine fX _ (br_f ix.2.2.2.2.2.2 (xx_isDir (by omega) en hn (R.1.1 n) (br_t y1 ?_)))
        rw [bt_m5, jx.2.2.2.2.2.1, en, ix.2.2.2.2.2.1, eo]
        refine ⟨jx.2.2.2.2.1, nm_e ⟨ix.2.2.2.2.1, nm_e (br_f (by decide) ?_)⟩⟩
        have := toY (fun r' v' => r' = -6 ∧ i_Rel (k + 6) (ls, tl, ec, kc, st, dr, nm, pa, ve, sz, it, sm, hl, th, sp, tb, dl, dn, cc, cv, mn, mc, oc, on, om, op, tr, el, cm) v') (br_t rfl ⟨rfl, bt_mkR R⟩)
        unfold wpY_write at this
        exact this
      · have q6' : q < 6 := by omega
        have i288 := bt_ix288 (q := 6 * n + q) (by omega)
        have e6 : nI n * 6 + nI q = nI (6 * n + q) := by rw [bt_m6, nI_add]
        have W : ∀ (szz : Nat → Int32) (z' : Nat), q + 1 ≤ z' → z' ≤ 6 → z ≤ z' → szz n = nI z' → (∀ k, k ≠ n → szz k = sz k) → bt_R st dr nm pa szz th dl sp tb dn cc cv mn mc oc on om (upd op (4 * t p + d) (nI (q + 1))) sY tY dy dm vc ms me cr hd hN (upd ps (4 * t' p + d) (nI (q + 1))) la s s' t t' := by
          intro szz z' h1 h2 h3 h4 h5
          have R1 : bt_R st dr nm pa szz th dl sp tb dn cc cv mn mc oc on om op sY tY dy dm vc ms me cr hd hN ps la s s' t t' := by
            refine bt_upN R ⟨R.1.1, R.1.2.1, fun k hk => ⟨(R.1.2.2 k hk).1, fun y => ?_, fun y => ?_⟩⟩ (fun k hk hH hz => ⟨hz, rfl, rfl, fun y zz hz6 e => ?_⟩)
            · by_cases e : k = n
              · rw [e]; exact ⟨z', h2, h4⟩
              · rw [h5 k e]; exact (R.1.2.2 k hk).2.1 y
            · by_cases e : k = n
              · rw [e] at y; exact absurd y1 y
              · rw [h5 k e]; exact (R.1.2.2 k hk).2.2 y
            · by_cases e2 : k = n
              · subst e2
                have : zz = z := bt_inj (by omega) (by omega) (e.symm.trans ez)
                exact ⟨z', by omega, h2, h4⟩
              · rw [h5 k e2]; exact ⟨zz, Nat.le_refl _, hz6, e⟩
          exact bt_upD (p := p) (k := d) R1 hp hd4 tp (fun x hx => ⟨rfl, rfl, pk_un hx⟩) (fun _ _ => rfl) (fun x hx => ⟨rfl, pk_un hx, rfl⟩) (fun _ _ => rfl) ⟨c', c5', w1, w2, w3, fun _ => ⟨n, hn, en, Or.inr ⟨y1, q + 1, z', h1, h2, h4, pk_us, pk_us⟩⟩⟩
        refine fX _ (br_f ix.2.2.2.2.2.2 (xx_isDir (by omega) en hn (R.1.1 n) (br_t y1 ?_)))
        rw [bt_m5, jx.2.2.2.2.2.1, en, ix.2.2.2.2.2.1, eo]
        refine ⟨jx.2.2.2.2.1, nm_e ⟨ix.2.2.2.2.1, nm_e (br_t ((bt_lt6 (by omega)).mpr q6') ?_)⟩⟩
        rw [e6, i288.2.2.2.2.2.1, im.2.2.2.2.2.1, ez, nI_1]
        refine ⟨i288.2.2.2.2.1, nm_e ⟨im.2.2.2.2.1, ?_⟩⟩
        by_cases e : q = z
        · subst e
          refine br_t rfl ⟨im.2.2.2.2.1, im.2.2.2.2.1, nm_e ⟨im.2.2.2.2.1, im.2.2.2.2.1, nm_e ⟨ix.2.2.2.2.1, nm_e ?_⟩⟩⟩
          rw [im.2.2.2.2.2.1, ix.2.2.2.2.2.1, nI_1]
          have := toY (fun r' v' => r' = nI (q + 1) ∧ i_Rel (k + 6) (ls, tl, ec, kc, st, dr, nm, pa, upd ve n (ve n + 1), upd sz n (nI (q + 1)), upd it (6 * n + q) v3, sm, hl, th, sp, tb, dl, dn, cc, cv, mn, mc, oc, on, om, upd op (4 * t p + d) (nI (q + 1)), tr, el, cm) v')
            (br_f (fun y => q6 ((bt_e6 (by omega)).mp y)) ⟨iy.2.2.2.2.1, i288.2.2.2.2.1, nm_e ⟨iy.2.2.2.2.1, iy.2.2.2.2.1, nm_e ⟨iy.2.2.2.2.1, im.2.2.2.2.1, br_f (by rw [pk_us]; exact nI_ge (by omega) (by omega)) ⟨iy.2.2.2.2.1, im.2.2.2.2.1, nm_r (by rw [pk_us]) ⟨im.2.2.2.2.1, im.2.2.2.2.1, nm_r (by rw [im.2.2.2.2.2.1]) ⟨iy.2.2.2.2.1, by rw [iy.2.2.2.2.2.1, pk_us], bt_mkR (W _ (q + 1) (Nat.le_refl _) (by omega) (by omega) pk_us (fun k hk => pk_un hk))⟩⟩⟩⟩⟩⟩)
          unfold wpY_write at this
          exact this
        · refine br_f (fun y => e (bt_inj (by omega) (by omega) y)) ⟨im.2.2.2.2.1, im.2.2.2.2.1, nm_e ⟨ix.2.2.2.2.1, nm_e ?_⟩⟩
          rw [im.2.2.2.2.2.1, ix.2.2.2.2.2.1, nI_1]
          have := toY (fun r' v' => r' = nI (q + 1) ∧ i_Rel (k + 6) (ls, tl, ec, kc, st, dr, nm, pa, upd ve n (ve n + 1), sz, upd it (6 * n + q) v3, sm, hl, th, sp, tb, dl, dn, cc, cv, mn, mc, oc, on, om, upd op (4 * t p + d) (nI (q + 1)), tr, el, cm) v')
            (br_f (fun y => q6 ((bt_e6 (by omega)).mp y)) ⟨iy.2.2.2.2.1, i288.2.2.2.2.1, nm_e ⟨iy.2.2.2.2.1, iy.2.2.2.2.1, nm_e ⟨iy.2.2.2.2.1, im.2.2.2.2.1, br_t (by rw [pk_us]; exact nI_le (by omega) (by omega)) ⟨im.2.2.2.2.1, im.2.2.2.2.1, nm_r (by rw [im.2.2.2.2.2.1]) ⟨iy.2.2.2.2.1, by rw [iy.2.2.2.2.2.1, pk_us], bt_mkR (W _ z (by omega) z6 (Nat.le_refl _) ez (fun k hk => rfl))⟩⟩⟩⟩⟩)
          unfold wpY_write at this
          exact this
section
variable {ls tl ec kc : Int32} {st dr nm pa ve sz it sm hl th sp tb dl dn cc cv mn mc oc on om op tr el cm : Nat → Int32} {es tt se fr : Int32} {sY tY dy dm vc ms me cr hd hN ps la ey tn tm sn sc fn fc : Nat → Int32} {s s' t t' : Nat → Nat}
theorem rd_l {i j c : Nat} (hi : i < 16) (hj : j < 16) (c5 : c ≤ 5) (e1 : hd j = nI c) (hn : ∀ m, m < c → on (5 * i + m) = hN (5 * j + m)) :
    ∀ (e q : Nat) (om op ps la : Nat → Int32), q + e + 1 = c → om i = nI q → ps j = nI q → op i = la j →
      ∃ (r : Int64) (om2 op2 ps2 la2 : Nat → Int32), (∃ q2, q2 < c ∧ om2 i = nI q2 ∧ ps2 j = nI q2) ∧ op2 i = la2 j ∧ (∀ x, x ≠ i → om2 x = om x ∧ op2 x = op x) ∧ (∀ x, x ≠ j → ps2 x = ps x ∧ la2 x = la x) ∧
        (∀ (post : Int64 → SX → Prop) (n : Nat), e + 1 < n → post r (ls, tl, ec, kc, st, dr, nm, pa, ve, sz, it, sm, hl, th, sp, tb, dl, dn, cc, cv, mn, mc, oc, on, om2, op2, tr, el, cm) → wX_readDirectories_16 post (nI i) (nI (c - 1)) ls tl ec kc n (nI q) st dr nm pa ve sz it sm hl th sp tb dl dn cc cv mn mc oc on om op tr el cm) ∧
        (∀ (post : Int64 → SY → Prop) (n : Nat), e < n → post r (ls, es, tt, se, fr, st, nm, pa, ve, sz, sm, it, dr, th, sY, tY, dl, dy, dm, vc, ms, me, cr, hd, hN, ps2, la2, ey, tn, tm, sn, sc, fn, fc) → wY_read_86 post (nI j) ls es tt se fr n st nm pa ve sz sm it dr th sY tY dl dy dm vc ms me cr hd hN ps la ey tn tm sn sc fn fc) := by
  have ix := bt_ix16 hi
  have iy := bt_ix16 hj
  -- one look at member q
  have lookX : ∀ (q : Nat) (om op : Nat → Int32), q < c → ∀ (post : Int64 → SX → Prop) (n : Nat) (o : Option Nat), bt_nx (fun n => (st n = 1 ∧ pa n = on (5 * i + q)) ∧ ¬ sm n ≤ op i) sm 3 45 none = o →
      ((bt_o o = -1 → ((nI (c - 1) ≤ nI q → ∀ y, y = nI q + 1 → wX_readDirectories_16 post (nI i) (nI (c - 1)) ls tl ec kc n y st dr nm pa ve sz it sm hl th sp tb dl dn cc cv mn mc oc on om op tr el cm) ∧ (¬ nI (c - 1) ≤ nI q → (vp_in (nI i) 16 ∧ ∀ om2, om2 = upd om i (nI q + 1) → (vp_in (nI i) 16 ∧ ∀ op2, op2 = upd op i 0 → ∀ y, y = nI q + 1 → wX_readDirectories_16 post (nI i) (nI (c - 1)) ls tl ec kc n y st dr nm pa ve sz it sm hl th sp tb dl dn cc cv mn mc oc on om2 op2 tr el cm))))) ∧
       (¬ bt_o o = -1 → (vp_in (bt_o o) 48 ∧ (vp_in (nI i) 16 ∧ ∀ op2, op2 = upd op i (sm (bt_o o).toNatClampNeg) → post (bt_o o).toInt64 (ls, tl, ec, kc, st, dr, nm, pa, ve, sz, it, sm, hl, th, sp, tb, dl, dn, cc, cv, mn, mc, oc, on, om, op2, tr, el, cm))))) →
      wX_readDirectories_16 post (nI i) (nI (c - 1)) ls tl ec kc (n + 1) (nI q) st dr nm pa ve sz it sm hl th sp tb dl dn cc cv mn mc oc on om op tr el cm := by
    intro q om op hq post n o ho h
    have iz := bt_ix80 (q := 5 * i + q) (by omega)
    have e5 : nI i * 5 + nI q = nI (5 * i + q) := by rw [bt_m5, nI_add]
    refine br_f (nI_nlt (by omega) (by omega)) ?_
    rw [e5, iz.2.2.2.2.2.1, ix.2.2.2.2.2.1]
    refine ⟨iz.2.2.2.2.1, ix.2.2.2.2.1, xx_after ?_⟩
    rw [ho]
    exact h
  have lookY : ∀ (q : Nat) (ps la : Nat → Int32), q < c → ps j = nI q → ∀ (post : Int64 → SY → Prop) (n : Nat) (o : Option Nat), bt_nx (fun n => (st n = 1 ∧ pa n = on (5 * i + q)) ∧ ¬ sm n ≤ la j) sm 3 45 none = o →
      ((bt_o o < 0 → (vp_in (nI j) 16 ∧ (vp_in (nI j) 16 ∧ ((nI q = nI c - 1 → post 1099511627776 (ls, es, tt, se, fr, st, nm, pa, ve, sz, sm, it, dr, th, sY, tY, dl, dy, dm, vc, ms, me, cr, hd, hN, ps, la, ey, tn, tm, sn, sc, fn, fc)) ∧ (¬ nI q = nI c - 1 → (vp_in (nI j) 16 ∧ (vp_in (nI j) 16 ∧ ∀ ps2, ps2 = upd ps j (nI (q + 1)) → (vp_in (nI j) 16 ∧ ∀ la2, la2 = upd la j 0 → wY_read_86 post (nI j) ls es tt se fr n st nm pa ve sz sm it dr th sY tY dl dy dm vc ms me cr hd hN ps2 la2 ey tn tm sn sc fn fc)))))))) ∧
       (¬ bt_o o < 0 → (vp_in (bt_o o) 48 ∧ (vp_in (nI j) 16 ∧ ∀ la2, la2 = upd la j (sm (bt_o o).toNatClampNeg) → post (bt_o o).toInt64 (ls, es, tt, se, fr, st, nm, pa, ve, sz, sm, it, dr, th, sY, tY, dl, dy, dm, vc, ms, me, cr, hd, hN, ps, la2, ey, tn, tm, sn, sc, fn, fc))))) →
      wY_read_86 post (nI j) ls es tt se fr (n + 1) st nm pa ve sz sm it dr th sY tY dl dy dm vc ms me cr hd hN ps la ey tn tm sn sc fn fc := by
    intro q ps la hq hps post n o ho h
    have iz := bt_ix80 (q := 5 * j + q) (by omega)
    have e5 : 5 * nI j + nI q = nI (5 * j + q) := by rw [bt_5m, nI_add]
    refine ⟨iy.2.2.2.2.1, ?_⟩
    rw [iy.2.2.2.2.2.1, hps, e5, iz.2.2.2.2.2.1, ← hn q hq, e1, nI_1]
    refine ⟨iz.2.2.2.2.1, iy.2.2.2.2.1, yy_next ?_⟩
    rw [ho]
    exact h
  -- found
  have found : ∀ (q m e : Nat) (om op ps la : Nat → Int32), q < c → om i = nI q → ps j = nI q → op i = la j → bt_nx (fun n => (st n = 1 ∧ pa n = on (5 * i + q)) ∧ ¬ sm n ≤ op i) sm 3 45 none = some m →
      ∃ (r : Int64) (om2 op2 ps2 la2 : Nat → Int32), (∃ q2, q2 < c ∧ om2 i = nI q2 ∧ ps2 j = nI q2) ∧ op2 i = la2 j ∧ (∀ x, x ≠ i → om2 x = om x ∧ op2 x = op x) ∧ (∀ x, x ≠ j → ps2 x = ps x ∧ la2 x = la x) ∧
        (∀ (post : Int64 → SX → Prop) (n : Nat), e + 1 < n → post r (ls, tl, ec, kc, st, dr, nm, pa, ve, sz, it, sm, hl, th, sp, tb, dl, dn, cc, cv, mn, mc, oc, on, om2, op2, tr, el, cm) → wX_readDirectories_16 post (nI i) (nI (c - 1)) ls tl ec kc n (nI q) st dr nm pa ve sz it sm hl th sp tb dl dn cc cv mn mc oc on om op tr el cm) ∧
        (∀ (post : Int64 → SY → Prop) (n : Nat), e < n → post r (ls, es, tt, se, fr, st, nm, pa, ve, sz, sm, it, dr, th, sY, tY, dl, dy, dm, vc, ms, me, cr, hd, hN, ps2, la2, ey, tn, tm, sn, sc, fn, fc) → wY_read_86 post (nI j) ls es tt se fr n st nm pa ve sz sm it dr th sY tY dl dy dm vc ms me cr hd hN ps la ey tn tm sn sc fn fc) := by
    intro q m e om op ps la hq h1 h2 h3 ho
    have hm : m < 48 := bt_nx_in (fun m => m < 48) 45 3 none (fun j a b _ => by omega) (fun n h => by cases h) m ho
    have im := bt_ix48 hm
    refine ⟨(nI m).toInt64, om, upd op i (sm m), ps, upd la j (sm m), ⟨q, hq, h1, h2⟩, by rw [pk_us, pk_us], fun x hx => ⟨rfl, pk_un hx⟩, fun x hx => ⟨rfl, pk_un hx⟩, fun post n hn' h => ?_, fun post n hn' h => ?_⟩
    · obtain ⟨n, rfl⟩ : ∃ n', n = n' + 1 := ⟨n - 1, by omega⟩
      refine lookX q om op hq post n (some m) ho (br_f im.2.2.2.2.2.2 ⟨im.2.2.2.2.1, ix.2.2.2.2.1, nm_r (show _ = upd op i (sm m) from ?_) h⟩)
      exact congrArg (fun z => upd op i (sm z)) im.2.2.2.2.2.1
    · obtain ⟨n, rfl⟩ : ∃ n', n = n' + 1 := ⟨n - 1, by omega⟩
      refine lookY q ps la hq h2 post n (some m) (by rw [← h3]; exact ho) (br_f im.1 ⟨im.2.2.2.2.1, iy.2.2.2.2.1, nm_r (show _ = upd la j (sm m) from ?_) h⟩)
      exact congrArg (fun z => upd la j (sm z)) im.2.2.2.2.2.1
  intro e
  induction e with
  | zero =>
    intro q om op ps la hq h1 h2 h3
    cases ho : bt_nx (fun n => (st n = 1 ∧ pa n = on (5 * i + q)) ∧ ¬ sm n ≤ op i) sm 3 45 none with
    | some m => exact found q m 0 om op ps la (by omega) h1 h2 h3 ho
    | none =>
      have ec0 : c - 1 = q := by omega
      refine ⟨1099511627776, om, op, ps, la, ⟨q, by omega, h1, h2⟩, h3, fun x hx => ⟨rfl, rfl⟩, fun x hx => ⟨rfl, rfl⟩, fun post n hn' h => ?_, fun post n hn' h => ?_⟩
      · obtain ⟨n, rfl⟩ : ∃ n', n = n' + 1 + 1 := ⟨n - 2, by omega⟩
        refine lookX q om op (by omega) post (n + 1) none ho (br_t rfl (br_t (nI_le (by omega) (by omega)) (nm_r (nI_1 _) (br_t (nI_lt (by omega) (by omega)) h))))
      · obtain ⟨n, rfl⟩ : ∃ n', n = n' + 1 := ⟨n - 1, by omega⟩
        refine lookY q ps la (by omega) h2 post n none (by rw [← h3]; exact ho) (br_t (show (-1 : Int32) < 0 by decide) ⟨iy.2.2.2.2.1, iy.2.2.2.2.1, br_t ?_ h⟩)
        rw [bt_s1 (by omega), ec0]
  | succ e ih =>
    intro q om op ps la hq h1 h2 h3
    cases ho : bt_nx (fun n => (st n = 1 ∧ pa n = on (5 * i + q)) ∧ ¬ sm n ≤ op i) sm 3 45 none with
    | some m => exact found q m (e + 1) om op ps la (by omega) h1 h2 h3 ho
    | none =>
      obtain ⟨r, om2, op2, ps2, la2, a1, a2, a3, a4, fX, fY⟩ := ih (q + 1) (upd om i (nI (q + 1))) (upd op i 0) (upd ps j (nI (q + 1))) (upd la j 0) (by omega) pk_us pk_us (by rw [pk_us, pk_us])
      refine ⟨r, om2, op2, ps2, la2, a1, a2, fun x hx => ?_, fun x hx => ?_, fun post n hn' h => ?_, fun post n hn' h => ?_⟩
      · rw [(a3 x hx).1, (a3 x hx).2, pk_un hx, pk_un hx]; exact ⟨rfl, rfl⟩
      · rw [(a4 x hx).1, (a4 x hx).2, pk_un hx, pk_un hx]; exact ⟨rfl, rfl⟩
      · obtain ⟨n, rfl⟩ : ∃ n', n = n' + 1 := ⟨n - 1, by omega⟩
        exact lookX q om op (by omega) post n none ho (br_t rfl (br_f (nI_ge (by omega) (by omega)) ⟨ix.2.2.2.2.1, nm_r (by rw [nI_1]) ⟨ix.2.2.2.2.1, nm_e (nm_r (nI_1 _) (fX post n (by omega) h))⟩⟩))
      · obtain ⟨n, rfl⟩ : ∃ n', n = n' + 1 := ⟨n - 1, by omega⟩
        refine lookY q ps la (by omega) h2 post n none (by rw [← h3]; exact ho) (br_t (show (-1 : Int32) < 0 by decide) ⟨iy.2.2.2.2.1, iy.2.2.2.2.1, br_f ?_ ⟨iy.2.2.2.2.1, iy.2.2.2.2.1, nm_e ⟨iy.2.2.2.2.1, nm_e (fY post n (by omega) h)⟩⟩⟩)
        rw [bt_s1 (by omega)]
        exact fun y => by have := bt_inj (by omega) (by omega) y; omega
end
end
section
theorem i_vc_read {k : Nat} {u : SX} {v : SY} (I : i_Rel k u v) (hk : k + 6 ≤ 3072) (v1 : Int32) (v2 : Int32) : wpX_read (fun r u' => wpY_read (fun r' v' => r' = r ∧ i_Rel (k + 6) u' v') v v1 v2) u v1 v2 := by
  obtain ⟨ls, tl, ec, kc, es, tt, se, fr, st, dr, nm, pa, ve, sz, it, sm, hl, th, sp, tb, dl, dn, cc, cv, mn, mc, oc, on, om, op, tr, el, cm, sY, tY, dy, dm, vc, ms, me, cr, hd, hN, ps, la, ey, tn, tm, sn, sc, fn, fc, s, s', t, t', rfl, rfl, R⟩ := I
  unfold wpX_read wpY_read
  rcases slot_R (ls := ls) (tl := tl) (ec := ec) (kc := kc) (st := st) (dr := dr) (nm := nm) (pa := pa) (ve := ve) (sz := sz) (it := it) (sm := sm) (hl := hl) (th := th) (sp := sp) (tb := tb) (dl := dl) (dn := dn) (cc := cc) (cv := cv) (mn := mn) (mc := mc) (oc := oc) (on := on) (om := om) (op := op) (tr := tr) (el := el) (cm := cm) (es := es) (tt := tt) (se := se) (fr := fr) (sY := sY) (tY := tY) (dy := dy) (dm := dm) (vc := vc) (ms := ms) (me := me) (cr := cr) (hd := hd) (hN := hN) (ps := ps) (la := la) (ey := ey) (tn := tn) (tm := tm) (sn := sn) (sc := sc) (fn := fn) (fc := fc) R v1 v2 with ⟨fX, fY⟩ | ⟨p, d, c, hp, hd4, tp, ha, hb, c1, c5, u1, u2, fX, fY⟩
  · exact fX _ (br_t rfl (fY _ (br_f (by decide) ⟨rfl, bt_mkR R⟩)))
  · have ix := bt_ix16 (q := 4 * t p + d) (by omega)
    have iy := bt_ix16 (q := 4 * t' p + d) (by omega)
    have jx := bt_ix80 (q := 5 * (4 * t p + d)) (by omega)
    have jy := bt_ix80 (q := 5 * (4 * t' p + d)) (by omega)
    obtain ⟨c', c5', w1, w2, w3, w4⟩ := (R.2.2.2.2.2 p hp tp).2.2 d hd4
    have ec0 : c' = c := bt_inj (by omega) (by omega) (w1.symm.trans u1)
    subst ec0
    obtain ⟨n, hn, en, kd⟩ := w4 c1
    have en' : hN (5 * (4 * t' p + d)) = nI n := (w3 0 (by omega)).1.symm.trans en
    have im := bt_ix48 hn
    rcases kd with ⟨y1, q, hq, o1, o2, o3⟩ | ⟨y1, q, z, qz, z6, ez, eo, ep⟩
    · obtain ⟨r, om2, op2, ps2, la2, ⟨q2, l2, l3, l4⟩, a2, a3, a4, rX, rY⟩ := rd_l (ls := ls) (tl := tl) (ec := ec) (kc := kc) (st := st) (dr := dr) (nm := nm) (pa := pa) (ve := ve) (sz := sz) (it := it) (sm := sm) (hl := hl) (th := th) (sp := sp) (tb := tb) (dl := dl) (dn := dn) (cc := cc) (cv := cv) (mn := mn) (mc := mc) (oc := oc) (on := on) (tr := tr) (el := el) (cm := cm) (es := es) (tt := tt) (se := se) (fr := fr) (sY := sY) (tY := tY) (dy := dy) (dm := dm) (vc := vc) (ms := ms) (me := me) (cr := cr) (hd := hd) (hN := hN) (ey := ey) (tn := tn) (tm := tm) (sn := sn) (sc := sc) (fn := fn) (fc := fc) (i := 4 * t p + d) (j := 4 * t' p + d) (by omega) (by omega) c5' w2 (fun m hm => (w3 m hm).1) (c' - 1 - q) q om op ps la (by omega) o1 o2 o3
      refine fX _ (br_f ix.2.2.2.2.2.2 (xx_isDir (by omega) en hn (R.1.1 n) (br_f y1 ?_)))
      unfold wpX_readDirectories
      refine ⟨ix.2.2.2.2.1, nm_r (show _ = nI (c' - 1) from ?_) ⟨ix.2.2.2.2.1, nm_r (show _ = nI q from ?_) ⟨c' - 1 - q + 2, rX _ _ (by omega) (fY _ (br_t iy.2.1 ?_))⟩⟩⟩
      · rw [ix.2.2.2.2.2.1, w1, bt_s1 (by omega)]
      · rw [ix.2.2.2.2.2.1]; exact o1
      · rw [bt_5m, jy.2.2.2.2.2.1, en']
        refine ⟨jy.2.2.2.2.1, nm_e ⟨im.2.2.2.2.1, br_f (by rw [im.2.2.2.2.2.1]; exact y1) ⟨c' - 1 - q + 1, rY _ _ (by omega) ⟨rfl, ?_⟩⟩⟩⟩
        refine bt_mkR (bt_upD (p := p) (k := d) R hp hd4 tp (fun x hx => ⟨rfl, a3 x hx⟩) (fun _ _ => rfl) (fun x hx => ⟨rfl, a4 x hx⟩) (fun _ _ => rfl) ⟨c', c5', w1, w2, w3, fun _ => ⟨n, hn, en, Or.inl ⟨y1, q2, l2, l3, l4, a2⟩⟩⟩)
    · refine fX _ (br_f ix.2.2.2.2.2.2 (xx_isDir (by omega) en hn (R.1.1 n) (br_t y1 ?_)))
      unfold wpX_readFile
      show vp_in (nI (4 * t p + d) * 5) 80 ∧ _
      rw [bt_m5, jx.2.2.2.2.2.1, en, ix.2.2.2.2.2.1, eo]
      refine ⟨jx.2.2.2.2.1, nm_e ⟨ix.2.2.2.2.1, nm_e ⟨im.2.2.2.2.1, ?_⟩⟩⟩
      rw [im.2.2.2.2.2.1, ez]
      by_cases qlz : q < z
      · have i288 := bt_ix288 (q := 6 * n + q) (by omega)
        have e6 : nI n * 6 + nI q = nI (6 * n + q) := by rw [bt_m6, nI_add]
        rw [e6, i288.2.2.2.2.2.1, nI_1]
        refine br_t (nI_lt qlz (by omega)) ⟨ix.2.2.2.2.1, nm_e ⟨i288.2.2.2.2.1, fY _ (br_t iy.2.1 ?_)⟩⟩
        rw [bt_5m, jy.2.2.2.2.2.1, en']
        refine ⟨jy.2.2.2.2.1, nm_e ⟨im.2.2.2.2.1, br_t (by rw [im.2.2.2.2.2.1]; exact y1) ⟨iy.2.2.2.2.1, im.2.2.2.2.1, ?_⟩⟩⟩
        rw [iy.2.2.2.2.2.1, im.2.2.2.2.2.1, ep, ez, nI_1]
        refine br_t (nI_lt qlz (by omega)) ⟨iy.2.2.2.2.1, iy.2.2.2.2.1, nm_e ⟨iy.2.2.2.2.1, ?_⟩⟩
        have e6' : 6 * nI n + nI (q + 1) - 1 = nI (6 * n + q) := by rw [bt_6m, nI_add, bt_s1 (by omega)]; exact congrArg nI (by omega)
        rw [pk_us, e6', i288.2.2.2.2.2.1]
        exact ⟨i288.2.2.2.2.1, rfl, bt_mkR (bt_upD (p := p) (k := d) R hp hd4 tp (fun x hx => ⟨rfl, rfl, pk_un hx⟩) (fun _ _ => rfl) (fun x hx => ⟨rfl, pk_un hx, rfl⟩) (fun _ _ => rfl) ⟨c', c5', w1, w2, w3, fun _ => ⟨n, hn, en, Or.inr ⟨y1, q + 1, z, qlz, z6, ez, pk_us, pk_us⟩⟩⟩)⟩
      · refine br_f (nI_nlt (by omega) (by omega)) (fY _ (br_t iy.2.1 ?_))
        rw [bt_5m, jy.2.2.2.2.2.1, en']
        refine ⟨jy.2.2.2.2.1, nm_e ⟨im.2.2.2.2.1, br_t (by rw [im.2.2.2.2.2.1]; exact y1) ⟨iy.2.2.2.2.1, im.2.2.2.2.1, ?_⟩⟩⟩
        rw [iy.2.2.2.2.2.1, im.2.2.2.2.2.1, ep, ez]
        exact br_f (nI_nlt (by omega) (by omega)) ⟨rfl, bt_mkR R⟩
section
variable {ls tl ec kc : Int32} {st dr nm pa ve sz it sm hl th sp tb dl dn cc cv mn mc oc on om op tr el cm : Nat → Int32} {es tt se fr : Int32} {sY tY dy dm vc ms me cr hd hN ps la ey tn tm sn sc fn fc : Nat → Int32} {s s' t t' : Nat → Nat}
theorem xx_cld_l {post : Int32 → Prop} {a : Nat} (ha : a < 4) : ∀ (e i n : Nat), i + e = 4 → e < n → post (bt_o (bt_f (fun d => oc (4 * a + d) = 0) i e)) → wX_closedDescriptor_2 post (nI a) ls tl ec kc st dr nm pa ve sz it sm hl th sp tb dl dn cc cv mn mc oc on om op tr el cm n (nI i) := by
  intro e
  induction e with
  | zero =>
    intro i n hi hn h
    obtain ⟨n, rfl⟩ : ∃ n', n = n' + 1 := ⟨n - 1, by omega⟩
    have : i = 4 := by omega
    subst this
    exact br_t (by decide) h
  | succ e ih =>
    intro i n hi hn h
    obtain ⟨n, rfl⟩ : ∃ n', n = n' + 1 := ⟨n - 1, by omega⟩
    have ix := bt_ix4 (q := i) (by omega)
    have iy := bt_ix16 (q := 4 * a + i) (by omega)
    have e4 : nI a * 4 + nI i = nI (4 * a + i) := by rw [bt_m4, nI_add]
    simp only [bt_f] at h
    refine br_f ix.2.2.2.1 ?_
    rw [e4, iy.2.2.2.2.2.1]
    refine ⟨iy.2.2.2.2.1, br_c (fun z => ?_) (fun z => nm_r (nI_1 _) (ih (i + 1) n (by omega) (by omega) ?_))⟩
    · rw [if_pos z] at h; exact h
    · rw [if_neg z] at h; exact h
theorem xx_cld {post : Int32 → Prop} {a : Nat} (ha : a < 4) (h : post (bt_o (bt_f (fun d => oc (4 * a + d) = 0) 0 4))) : wpX_closedDescriptor post (ls, tl, ec, kc, st, dr, nm, pa, ve, sz, it, sm, hl, th, sp, tb, dl, dn, cc, cv, mn, mc, oc, on, om, op, tr, el, cm) (nI a) :=
  ⟨5, xx_cld_l ha 4 0 5 rfl (by omega) h⟩
theorem yy_op_l {post : Int32 → SY → Prop} {p a b : Nat} {x : Int32} (hp : p < 4) (hb : b < 4) (tb0 : tY p = nI b) (hD : ∀ k, k < 4 → ∃ c, c ≤ 5 ∧ oc (4 * a + k) = nI c ∧ hd (4 * b + k) = nI c) :
    ∀ (e i n : Nat), i + e = 4 → e < n → (∀ d, bt_f (fun d => oc (4 * a + d) = 0) i e = some d → wY_open_59 post (nI p) x (nI d) ls es tt se fr st nm pa ve sz sm it dr th sY tY dl dy dm vc ms me cr hd hN ps la ey tn tm sn sc fn fc) → (bt_f (fun d => oc (4 * a + d) = 0) i e = none → wY_open_59 post (nI p) x 4 ls es tt se fr st nm pa ve sz sm it dr th sY tY dl dy dm vc ms me cr hd hN ps la ey tn tm sn sc fn fc) → wY_open_28 post (nI p) x ls es tt se fr st nm pa ve sz sm it dr th sY tY dl dy dm vc ms me cr hd hN ps la ey tn tm sn sc fn fc n (nI i) := by
  have ip := bt_ix4 hp
  intro e
  induction e with
  | zero =>
    intro i n hi hn h1 h2
    obtain ⟨n, rfl⟩ : ∃ n', n = n' + 1 := ⟨n - 1, by omega⟩
    have : i = 4 := by omega
    subst this
    exact br_t (by decide) (h2 rfl)
  | succ e ih =>
    intro i n hi hn h1 h2
    obtain ⟨n, rfl⟩ : ∃ n', n = n' + 1 := ⟨n - 1, by omega⟩
    have ix := bt_ix4 (q := i) (by omega)
    have iy := bt_ix16 (q := 4 * b + i) (by omega)
    have e4 : 4 * nI b + nI i = nI (4 * b + i) := by rw [bt_4m, nI_add]
    obtain ⟨c, c5, u1, u2⟩ := hD i (by omega)
    simp only [bt_f] at h1 h2
    refine br_f ix.2.2.2.1 ⟨ip.2.2.2.2.1, ?_⟩
    rw [ip.2.2.2.2.2.1, tb0, e4, iy.2.2.2.2.2.1, u2]
    refine ⟨iy.2.2.2.2.1, ek_if (bt_le0 (by omega)) (fun z => h1 i (if_pos (by rw [u1, z]; rfl))) (fun z => nm_r (nI_1 _) ?_)⟩
    have nz : ¬ oc (4 * a + i) = 0 := by rw [u1]; exact fun y => z ((bt_e0 (by omega)).mp y)
    rw [if_neg nz] at h1 h2
    exact ih (i + 1) n (by omega) (by omega) h1 h2
theorem xx_op_l {post : Int32 → SX → Prop} {a i c : Nat} {x x4 : Int32} {o : Option Nat} (ha : a < 4) (hi : i < 16) (c5 : c ≤ 5) (ho : ∀ k, o = some k → k < 6)
    (h : ∀ on2 : Nat → Int32, (∀ m, m < c → on2 (5 * i + m) = bt_vg mn a x o m) → (∀ y, (y < 5 * i ∨ 5 * i + 5 ≤ y) → on2 y = on y) → post x4 (ls, tl, ec, kc, st, dr, nm, pa, ve, sz, it, sm, hl, th, sp, tb, dl, dn, cc, cv, mn, mc, upd oc i (nI c), on2, upd om i 0, upd op i 0, tr, el, cm)) :
    ∀ (e m n : Nat) (on2 : Nat → Int32), m + e = c → e < n → (∀ j, j < m → on2 (5 * i + j) = bt_vg mn a x o j) → (∀ y, (y < 5 * i ∨ 5 * i + 5 ≤ y) → on2 y = on y) →
      wX_open_71 post x x4 (nI i) (bt_of (6 * a) o) (nI c) ls tl ec kc n (nI m) st dr nm pa ve sz it sm hl th sp tb dl dn cc cv mn mc oc on2 om op tr el cm := by
  have ix := bt_ix16 hi
  intro e
  induction e with
  | zero =>
    intro m n on2 hm hn h1 h2
    obtain ⟨n, rfl⟩ : ∃ n', n = n' + 1 := ⟨n - 1, by omega⟩
    have : m = c := by omega
    subst this
    refine br_t (Int32.le_refl _) ⟨ix.2.2.2.2.1, ?_⟩
    rw [ix.2.2.2.2.2.1]
    exact nm_e ⟨ix.2.2.2.2.1, nm_e ⟨ix.2.2.2.2.1, nm_e (h on2 h1 h2)⟩⟩
  | succ e ih =>
    intro m n on2 hm hn h1 h2
    obtain ⟨n, rfl⟩ : ∃ n', n = n' + 1 := ⟨n - 1, by omega⟩
    have iz := bt_ix80 (q := 5 * i + m) (by omega)
    have e5 : nI i * 5 + nI m = nI (5 * i + m) := by rw [bt_m5, nI_add]
    refine br_f (nI_ge (by omega) (by omega)) (xx_seenNode ha (by omega) ho ?_)
    rw [e5, iz.2.2.2.2.2.1]
    refine ⟨iz.2.2.2.2.1, nm_e (nm_r (nI_1 _) (ih (m + 1) n _ (by omega) (by omega) (fun j hj => ?_) (fun y hy => ?_)))⟩
    · by_cases w : j = m
      · rw [w, pk_us]
      · rw [pk_un (by omega)]; exact h1 j (by omega)
    · rw [pk_un (by omega)]; exact h2 y hy
theorem yy_op2_l {post : Int32 → SY → Prop} {j c : Nat} {x4 : Int32} (hj : j < 16) (c5 : c ≤ 5)
    (h : ∀ hN2 : Nat → Int32, (∀ m, m < c → hN2 (5 * j + m) = sn m) → (∀ y, (y < 5 * j ∨ 5 * j + 5 ≤ y) → hN2 y = hN y) → post x4 (ls, es, tt, nI c, fr, st, nm, pa, ve, sz, sm, it, dr, th, sY, tY, dl, dy, dm, vc, ms, me, cr, hd, hN2, upd ps j 0, upd la j 0, ey, tn, tm, sn, sc, fn, fc)) :
    ∀ (e m n : Nat) (hN2 : Nat → Int32), m + e = c → e < n → (∀ i, i < m → hN2 (5 * j + i) = sn i) → (∀ y, (y < 5 * j ∨ 5 * j + 5 ≤ y) → hN2 y = hN y) →
      wY_open_101 post x4 (nI j) ls es tt (nI c) fr n (nI m) st nm pa ve sz sm it dr th sY tY dl dy dm vc ms me cr hd hN2 ps la ey tn tm sn sc fn fc := by
  have ix := bt_ix16 hj
  intro e
  induction e with
  | zero =>
    intro m n hN2 hm hn h1 h2
    obtain ⟨n, rfl⟩ : ∃ n', n = n' + 1 := ⟨n - 1, by omega⟩
    have : m = c := by omega
    subst this
    refine br_t (Int32.le_refl _) ⟨ix.2.2.2.2.1, ?_⟩
    rw [ix.2.2.2.2.2.1]
    exact nm_e ⟨ix.2.2.2.2.1, nm_e (h hN2 h1 h2)⟩
  | succ e ih =>
    intro m n hN2 hm hn h1 h2
    obtain ⟨n, rfl⟩ : ∃ n', n = n' + 1 := ⟨n - 1, by omega⟩
    have iz := bt_ix80 (q := 5 * j + m) (by omega)
    have iw := bt_ix5 (q := m) (by omega)
    have e5 : 5 * nI j + nI m = nI (5 * j + m) := by rw [bt_5m, nI_add]
    refine br_f (nI_ge (by omega) (by omega)) ?_
    rw [e5, iz.2.2.2.2.2.1, iw.2.2.2.2.2.1]
    refine ⟨iw.2.2.2.2.1, iz.2.2.2.2.1, nm_e (nm_r (nI_1 _) (ih (m + 1) n _ (by omega) (by omega) (fun j' hj' => ?_) (fun y hy => ?_)))⟩
    · by_cases w : j' = m
      · rw [w, pk_us]
      · rw [pk_un (by omega)]; exact h1 j' (by omega)
    · rw [pk_un (by omega)]; exact h2 y hy
end
theorem i_vc_open {k : Nat} {u : SX} {v : SY} (I : i_Rel k u v) (hk : k + 6 ≤ 3072) (v1 : Int32) (v2 : Int32) : wpX_open (fun r u' => wpY_open (fun r' v' => r' = r ∧ i_Rel (k + 6) u' v') v v1 v2) u v1 v2 := by
  obtain ⟨ls, tl, ec, kc, es, tt, se, fr, st, dr, nm, pa, ve, sz, it, sm, hl, th, sp, tb, dl, dn, cc, cv, mn, mc, oc, on, om, op, tr, el, cm, sY, tY, dy, dm, vc, ms, me, cr, hd, hN, ps, la, ey, tn, tm, sn, sc, fn, fc, s, s', t, t', rfl, rfl, R⟩ := I
  obtain ⟨m, D, rx, dx⟩ := bt_xd v2
  unfold wpX_open wpY_open
  by_cases hn : (∃ q, q < 4 ∧ v1 = nI q ∧ th q ≠ 0) ∧ bt_g m D
  · obtain ⟨⟨p, hp, rfl, tp⟩, gx⟩ := hn
    obtain ⟨r, L', tr', el2, an, hT2, fX, fY⟩ := ev_R (ls := ls) (tl := tl) (ec := ec) (kc := kc) (st := st) (dr := dr) (nm := nm) (pa := pa) (ve := ve) (sz := sz) (it := it) (sm := sm) (hl := hl) (th := th) (sp := sp) (tb := tb) (dl := dl) (dn := dn) (cc := cc) (cv := cv) (mn := mn) (mc := mc) (oc := oc) (on := on) (om := om) (op := op) (tr := tr) (el := el) (cm := cm) R hp tp rx dx gx
    have ip := bt_ix4 hp
    rcases bt_an2 an with ng | ⟨n, hn, rfl, zn, _⟩
    · exact fX _ (br_f ng (yy_isPath1 hp tp rx dx gx (fun ey2 _ => br_f (by decide) (fY _ _ _ _ _ _ _ _ _ _ _ _ (fun es2 se2 ey3 tn2 tm2 sn2 sc2 ht => br_f ng ⟨rfl, bt_mkR R⟩)))))
    · have J := R
      obtain ⟨RA, B1, B2, RS, RT, RP⟩ := J
      obtain ⟨hT, hC, hD⟩ := RP p hp tp
      obtain ⟨sa, ha, sb, hb⟩ := RS.1 p hp
      obtain ⟨ta, hta, tb0, htb⟩ := RT.1 p hp
      have hD' : ∀ k, k < 4 → ∃ c, c ≤ 5 ∧ oc (4 * t p + k) = nI c ∧ hd (4 * t' p + k) = nI c := fun k hk => by
        obtain ⟨c, c5, u1, u2, _⟩ := hD k hk
        exact ⟨c, c5, u1, u2⟩
      have Nn : bt_N st (nI n) := ⟨n, hn, rfl, zn⟩
      obtain ⟨c, c1, c5, hv, hNs, _, hS⟩ := bt_view hC Nn
      have ho : ∀ k', bt_cf cc cv (s p) (nI n) = some k' → k' < 6 := fun k' hk' => (hS k' hk').1
      have i0 : (0 : Int32) ≤ nI n := nI_pos' (by omega)
      cases od : bt_f (fun d => oc (4 * t p + d) = 0) 0 4 with
      | none =>
        refine fX _ (br_t i0 ⟨ip.2.2.2.2.1, ?_⟩)
        rw [ip.2.2.2.2.2.1, ta]
        refine xx_cld hta ?_
        rw [od]
        refine br_t rfl (yy_isPath1 hp tp rx dx gx (fun ey2 _ => br_f (by decide) (fY _ _ _ _ _ _ _ _ _ _ _ _ (fun es2 se2 ey3 tn2 tm2 sn2 sc2 ht => br_t i0 ⟨5, yy_op_l hp htb tb0 hD' 4 0 5 rfl (by omega) (fun d hd' => ?_) (fun _ => br_t rfl ⟨rfl, bt_mkR R⟩)⟩))))
        rw [od] at hd'; cases hd'
      | some d =>
        obtain ⟨_, d4, d0, _⟩ := bt_f_s 4 0 od
        have jd := bt_ix4 (q := d) (by omega)
        have ix := bt_ix16 (q := 4 * t p + d) (by omega)
        have iy := bt_ix16 (q := 4 * t' p + d) (by omega)
        refine fX _ (br_t i0 ⟨ip.2.2.2.2.1, ?_⟩)
        rw [ip.2.2.2.2.2.1, ta, sa]
        refine xx_cld hta ?_
        rw [od]
        refine br_f jd.2.2.2.2.2.2 ⟨ip.2.2.2.2.1, nm_r (show _ = nI (4 * t p + d) from ?_) ⟨ip.2.2.2.2.1, xx_coverOf ha (bt_Cc hC) (xx_seenCount ha ho ?_)⟩⟩
        · show nI (t p) * 4 + nI d = _
          rw [bt_m4, nI_add]
        rw [hv]
        refine ⟨c + 1, xx_op_l ha (by omega) c5 ho (fun on2 a1 a2 => ?_) c 0 (c + 1) on (by omega) (by omega) (fun j hj => by omega) (fun _ _ => rfl)⟩
        refine yy_isPath1 hp tp rx dx gx (fun ey2 _ => br_f (by decide) (fY _ _ _ _ _ _ _ _ _ _ _ _ (fun es2 se2 ey3 tn2 tm2 sn2 sc2 ht => br_t i0 ⟨5, yy_op_l hp htb tb0 hD' 4 0 5 rfl (by omega) (fun d' hd' => ?_) (fun z => by rw [od] at z; cases z)⟩)))
        have ed : d' = d := by rw [od] at hd'; cases hd'; rfl
        subst ed
        refine br_f (fun z => by have := bt_inj (b := 4) (by omega) (by decide) z; omega) (yy_look hp hb sb B2 hC Nn rfl hv c1 c5 (fun sn3 sc3 g1 _ _ => ⟨ip.2.2.2.2.1, ?_⟩))
        have e4 : 4 * tY (nI p).toNatClampNeg + nI d' = nI (4 * t' p + d') := by rw [ip.2.2.2.2.2.1, tb0, bt_4m, nI_add]
        refine nm_r e4 ⟨iy.2.2.2.2.1, ?_⟩
        rw [iy.2.2.2.2.2.1]
        refine nm_e ⟨c + 1, yy_op2_l (by omega) c5 (fun hN2 b1 b2 => ⟨rfl, ?_⟩) c 0 (c + 1) hN (by omega) (by omega) (fun j hj => by omega) (fun _ _ => rfl)⟩
        obtain ⟨n0, hn0, en0, zn0⟩ := hNs 0 (by omega)
        have f0 : on2 (5 * (4 * t p + d')) = nI n0 := (a1 0 (by omega)).trans en0
        refine bt_mkR (bt_upD (p := p) (k := d') R hp (by omega) tp (fun x hx => ⟨pk_un hx, pk_un hx, pk_un hx⟩) a2 (fun x hx => ⟨pk_un hx, pk_un hx, pk_un hx⟩) b2 ⟨c, c5, pk_us, pk_us, fun m' hm' => ⟨?_, ?_⟩, fun _ => ⟨n0, hn0, f0, ?_⟩⟩)
        · rw [a1 m' hm', b1 m' hm', g1 m' hm']
        · rw [a1 m' hm']; exact hNs m' hm'
        · by_cases y : dr n0 = 0
          · obtain ⟨z, z6, ez⟩ := (RA.2.2 n0 hn0).2.1 y
            exact Or.inr ⟨y, 0, z, by omega, z6, ez, pk_us, pk_us⟩
          · exact Or.inl ⟨y, 0, by omega, pk_us, pk_us, by rw [pk_us, pk_us]⟩
  · exact xx_ev0 rx dx hn (br_f (by decide) (yy_isPath0 rx dx hn (fun es2 ey2 => br_t rfl ⟨rfl, bt_mkR R⟩)))
end
section
section
variable {ls tl ec kc : Int32} {st dr nm pa ve sz it sm hl th sp tb dl dn cc cv mn mc oc on om op tr el cm : Nat → Int32} {es tt se fr : Int32} {sY tY dy dm vc ms me cr hd hN ps la ey tn tm sn sc fn fc : Nat → Int32} {s s' t t' : Nat → Nat}
theorem ev_R1 {p m D : Nat} {x y : Int32} (R : bt_R st dr nm pa sz th dl sp tb dn cc cv mn mc oc on om op sY tY dy dm vc ms me cr hd hN ps la s s' t t') (hp : p < 4) (tp : th p ≠ 0) (rx : bt_rw x m) (dx : bt_dg m D) (gx : bt_g m D) (D1 : 1 ≤ D) (ry : bt_rw y (m / 11)) (sg : y < 0 ↔ x < 0) :
    ∃ (r : Int32) (L' : Nat) (tr' el2 : Nat → Int32), bt_an st tr' r L' ∧ (∃ tn tm, bt_tr st nm tr' tn tm L') ∧
      (∀ post : Int32 → SX → Prop, post r (ls, nI L', nI (D - 1), kc, st, dr, nm, pa, ve, sz, it, sm, hl, th, sp, tb, dl, dn, cc, cv, mn, mc, oc, on, om, op, tr', el2, cm) → wpX_evaluate post (ls, tl, ec, kc, st, dr, nm, pa, ve, sz, it, sm, hl, th, sp, tb, dl, dn, cc, cv, mn, mc, oc, on, om, op, tr, el, cm) (nI p) y) ∧
      (∀ (post : Int32 → SY → Prop) (es tt se fr : Int32) (ey tn tm sn sc fn fc : Nat → Int32), (∀ (es2 se2 : Int32) (ey2 tn2 tm2 sn2 sc2 : Nat → Int32), bt_tr st nm tr' tn2 tm2 L' → post r (ls, es2, nI L', se2, fr, st, nm, pa, ve, sz, sm, it, dr, th, sY, tY, dl, dy, dm, vc, ms, me, cr, hd, hN, ps, la, ey2, tn2, tm2, sn2, sc2, fn, fc)) →
        wpY_evaluate post (ls, es, tt, se, fr, st, nm, pa, ve, sz, sm, it, dr, th, sY, tY, dl, dy, dm, vc, ms, me, cr, hd, hN, ps, la, ey, tn, tm, sn, sc, fn, fc) (nI p) x 1) := by
  obtain ⟨RA, B1, B2, RS, RT, RP⟩ := R
  obtain ⟨hT, hC, hD⟩ := RP p hp tp
  obtain ⟨sa, ha, sb, hb⟩ := RS.1 p hp
  have dy0 : bt_dg (m / 11) (D - 1) := by
    refine ⟨by have := dx.1; omega, fun j => ?_⟩
    rw [bt_dv', ← dx.2 (j + 1)]; omega
  have gy : bt_g (m / 11) (D - 1) := by
    refine ⟨by have := gx.1; omega, fun j hj => ?_⟩
    rw [bt_dv']; exact gx.2 (j + 1) (by omega)
  obtain ⟨r, L', tr', el2, an, hT2, fX, fY⟩ := ev_t (ls := ls) (tl := tl) (ec := ec) (kc := kc) (st := st) (dr := dr) (nm := nm) (pa := pa) (ve := ve) (sz := sz) (it := it) (sm := sm) (hl := hl) (th := th) (sp := sp) (tb := tb) (dl := dl) (dn := dn) (cc := cc) (cv := cv) (mn := mn) (mc := mc) (oc := oc) (on := on) (om := om) (op := op) (tr := tr) (el := el) (cm := cm) (lv := 1) hp ha hb sa sb B2 hC tp hT (RA.2.1 0 (by omega)) ry dy0 gy rx dx gx sg (bt_s1 (by omega))
    (fun j hj => by
      have : D - 1 - (D - 1 - 1 - j) = j + 1 := by omega
      rw [this, bt_dv']) (by omega)
  exact ⟨r, L', tr', el2, an, hT2, fX, fun post es tt se fr ey tn tm sn sc fn fc h => fY post es tt se fr ey tn tm sn sc fn fc (fun ey2 tn2 tm2 sn2 sc2 se2 _ ht => h _ _ _ _ _ _ _ ht)⟩
theorem yy_fn_l {post : Int32 → SY → Prop} {b y x : Int32} : ∀ (e i n : Nat), i + e = 48 → e < n → (∀ f, bt_f (fun n => st n = 0) i e = some f → wY_create_204 post b y x (nI f) ls es tt se fr st nm pa ve sz sm it dr th sY tY dl dy dm vc ms me cr hd hN ps la ey tn tm sn sc fn fc) → (bt_f (fun n => st n = 0) i e = none → wY_create_204 post b y x 48 ls es tt se fr st nm pa ve sz sm it dr th sY tY dl dy dm vc ms me cr hd hN ps la ey tn tm sn sc fn fc) → wY_create_181 post b y x ls es tt se fr st nm pa ve sz sm it dr th sY tY dl dy dm vc ms me cr hd hN ps la ey tn tm sn sc fn fc n (nI i) := by
  intro e
  induction e with
  | zero =>
    intro i n hi hn h1 h2
    obtain ⟨n, rfl⟩ : ∃ n', n = n' + 1 := ⟨n - 1, by omega⟩
    have : i = 48 := by omega
    subst this
    exact br_t (by decide) (h2 rfl)
  | succ e ih =>
    intro i n hi hn h1 h2
    obtain ⟨n, rfl⟩ : ∃ n', n = n' + 1 := ⟨n - 1, by omega⟩
    have ix := bt_ix48 (q := i) (by omega)
    simp only [bt_f] at h1 h2
    refine br_f ix.2.2.2.1 ⟨ix.2.2.2.2.1, ?_⟩
    rw [ix.2.2.2.2.2.1]
    refine br_c (fun z => h1 i (if_pos z)) (fun z => nm_r (nI_1 _) ?_)
    rw [if_neg z] at h1 h2
    exact ih (i + 1) n (by omega) (by omega) h1 h2
theorem cr_tail {q : Nat} {b y : Int32} (R : bt_R st dr nm pa sz th dl sp tb dn cc cv mn mc oc on om op sY tY dy dm vc ms me cr hd hN ps la s s' t t') (hq : q < 48) (sq : st q ≠ 0) (hb : bt_B b) :
    ∃ (r ls2 : Int32) (st2 dr2 nm2 pa2 ve2 sz2 sm2 : Nat → Int32), bt_R st2 dr2 nm2 pa2 sz2 th dl sp tb dn cc cv mn mc oc on om op sY tY dy dm vc ms me cr hd hN ps la s s' t t' ∧
      (∀ post : Int32 → SX → Prop, post r (ls2, tl, ec, kc, st2, dr2, nm2, pa2, ve2, sz2, it, sm2, hl, th, sp, tb, dl, dn, cc, cv, mn, mc, oc, on, om, op, tr, el, cm) → wX_create_117 post b y (nI q) ls tl ec kc st dr nm pa ve sz it sm hl th sp tb dl dn cc cv mn mc oc on om op tr el cm) ∧
      (∀ (post : Int32 → SY → Prop) (es tt se fr : Int32) (ey tn tm sn sc fn fc : Nat → Int32), post r (ls2, es, tt, se, fr, st2, nm2, pa2, ve2, sz2, sm2, it, dr2, th, sY, tY, dl, dy, dm, vc, ms, me, cr, hd, hN, ps, la, ey, tn, tm, sn, sc, fn, fc) → wY_create_164 post b y (nI q) ls es tt se fr st nm pa ve sz sm it dr th sY tY dl dy dm vc ms me cr hd hN ps la ey tn tm sn sc fn fc) := by
  have iq := bt_ix48 hq
  by_cases g : st q = 2
  · refine ⟨-2, ls, st, dr, nm, pa, ve, sz, sm, R, fun post h => br_f iq.2.2.2.2.2.2 ⟨iq.2.2.2.2.1, br_t ?_ h⟩, fun post es tt se fr ey tn tm sn sc fn fc h => ⟨iq.2.2.2.2.1, br_t ?_ h⟩⟩
    · rw [iq.2.2.2.2.2.1]; exact g
    · rw [iq.2.2.2.2.2.1]; exact g
  · cases o : bt_f (fun n => st n = 0) 3 45 with
    | none =>
      refine ⟨-6, ls, st, dr, nm, pa, ve, sz, sm, R, fun post h => br_f iq.2.2.2.2.2.2 ⟨iq.2.2.2.2.1, br_f ?_ (xx_freeNode ?_)⟩, fun post es tt se fr ey tn tm sn sc fn fc h => ⟨iq.2.2.2.2.1, br_f ?_ ⟨46, yy_fn_l 45 3 46 rfl (by omega) (fun f hf => ?_) (fun _ => br_t rfl h)⟩⟩⟩
      · rw [iq.2.2.2.2.2.1]; exact g
      · rw [o]; exact br_t rfl h
      · rw [iq.2.2.2.2.2.1]; exact g
      · rw [o] at hf; cases hf
    | some f =>
      obtain ⟨f3, f48, f0, _⟩ := bt_f_s 45 3 o
      have hf : f < 48 := by omega
      have jf := bt_ix48 hf
      have R2 : bt_R (upd st f 1) (upd dr f b) (upd nm f y) (upd pa f (nI q)) (upd sz f 0) th dl sp tb dn cc cv mn mc oc on om op sY tY dy dm vc ms me cr hd hN ps la s s' t t' := by
        refine bt_upN R ⟨bt_Bu R.1.1 hb, fun n hn => ?_, fun n hn => ?_⟩ (fun n hn hH hz => ?_)
        · rw [pk_un (by omega)]; exact R.1.2.1 n hn
        · by_cases e : n = f
          · rw [e, pk_us, pk_us, pk_us, pk_us]
            exact ⟨fun _ _ => ⟨q, hq, rfl⟩, fun _ => ⟨0, by omega, rfl⟩, fun _ => rfl⟩
          · rw [pk_un e, pk_un e, pk_un e, pk_un e]; exact R.1.2.2 n hn
        · have e : n ≠ f := fun e => by rw [e] at hz; exact hz f0
          rw [pk_un e, pk_un e, pk_un e, pk_un e]
          exact ⟨hz, rfl, rfl, fun _ z hz6 ez => ⟨z, Nat.le_refl _, hz6, ez⟩⟩
      refine ⟨nI f, ls + 1, upd st f 1, upd dr f b, upd nm f y, upd pa f (nI q), upd (upd ve f 0) q (upd ve f 0 q + 1), upd sz f 0, upd sm f (ls + 1), R2, fun post h => br_f iq.2.2.2.2.2.2 ⟨iq.2.2.2.2.1, br_f ?_ (xx_freeNode ?_)⟩, fun post es tt se fr ey tn tm sn sc fn fc h => ⟨iq.2.2.2.2.1, br_f ?_ ⟨46, yy_fn_l 45 3 46 rfl (by omega) (fun f' hf' => ?_) (fun z => by rw [o] at z; cases z)⟩⟩⟩
      · rw [iq.2.2.2.2.2.1]; exact g
      · rw [o]
        refine br_f jf.2.2.2.2.2.2 ?_
        show wpX_makeNode _ _ (nI f) (nI q) y b
        unfold wpX_makeNode
        have e1 := jf.2.2.2.2.2.1
        have e2 := iq.2.2.2.2.2.1
        refine nm_e ⟨jf.2.2.2.2.1, nm_r (by rw [e1]) ⟨jf.2.2.2.2.1, nm_r (by rw [e1, bt_nB hb]) ⟨jf.2.2.2.2.1, nm_r (by rw [e1]) ⟨jf.2.2.2.2.1, nm_r (by rw [e1]) ⟨jf.2.2.2.2.1, nm_r (by rw [e1]) ⟨jf.2.2.2.2.1, nm_r (by rw [e1]) ⟨jf.2.2.2.2.1, nm_r (by rw [e1]) ⟨iq.2.2.2.2.1, iq.2.2.2.2.1, nm_r (by rw [e2]) h⟩⟩⟩⟩⟩⟩⟩⟩
      · rw [iq.2.2.2.2.2.1]; exact g
      · have ef : f' = f := by rw [o] at hf'; cases hf'; rfl
        subst ef
        have e1 := jf.2.2.2.2.2.1
        have e2 := iq.2.2.2.2.2.1
        refine br_f (fun z => by have := bt_inj (b := 48) (by omega) (by decide) z; omega) ?_
        refine ⟨jf.2.2.2.2.1, nm_r (by rw [e1]) ⟨jf.2.2.2.2.1, nm_r (by rw [e1]) ⟨jf.2.2.2.2.1, nm_r (by rw [e1]) ⟨jf.2.2.2.2.1, nm_r (by rw [e1]) ⟨jf.2.2.2.2.1, nm_r (by rw [e1]) ⟨jf.2.2.2.2.1, nm_r (by rw [e1, bt_nB hb]) (nm_e ⟨jf.2.2.2.2.1, nm_r (by rw [e1]) ⟨iq.2.2.2.2.1, iq.2.2.2.2.1, nm_r (by rw [e2]) h⟩⟩)⟩⟩⟩⟩⟩⟩
theorem yy_cm_l {post : Int32 → SY → Prop} {b y : Int32} {c : Nat} {P : Nat → Prop} [DecidablePred P] (c5 : c ≤ 5) (hP : ∀ m, m < c → (¬ sc m = 0 ↔ P m)) :
    ∀ (e m n : Nat), m + e = c → e < n → (∀ f, bt_f P m e = some f → wY_create_143 post b y (nI f) ls es tt (nI c) fr st nm pa ve sz sm it dr th sY tY dl dy dm vc ms me cr hd hN ps la ey tn tm sn sc fn fc) → (bt_f P m e = none → wY_create_143 post b y (nI c) ls es tt (nI c) fr st nm pa ve sz sm it dr th sY tY dl dy dm vc ms me cr hd hN ps la ey tn tm sn sc fn fc) → wY_create_118 post b y ls es tt (nI c) fr st nm pa ve sz sm it dr th sY tY dl dy dm vc ms me cr hd hN ps la ey tn tm sn sc fn fc n (nI m) := by
  intro e
  induction e with
  | zero =>
    intro m n hm hn h1 h2
    obtain ⟨n, rfl⟩ : ∃ n', n = n' + 1 := ⟨n - 1, by omega⟩
    have : m = c := by omega
    subst this
    exact br_t (Int32.le_refl _) (h2 rfl)
  | succ e ih =>
    intro m n hm hn h1 h2
    obtain ⟨n, rfl⟩ : ∃ n', n = n' + 1 := ⟨n - 1, by omega⟩
    have ix := bt_ix5 (q := m) (by omega)
    simp only [bt_f] at h1 h2
    refine br_f (nI_ge (by omega) (by omega)) ⟨ix.2.2.2.2.1, ?_⟩
    rw [ix.2.2.2.2.2.1]
    refine br_c (fun z => nm_r (nI_1 _) ?_) (fun z => h1 m (if_pos ((hP m (by omega)).mp z)))
    rw [if_neg (fun w => (hP m (by omega)).mpr w z)] at h1 h2
    exact ih (m + 1) n (by omega) (by omega) h1 h2
end
theorem i_vc_create {k : Nat} {u : SX} {v : SY} (I : i_Rel k u v) (hk : k + 6 ≤ 3072) (v1 : Int32) (v2 : Int32) (v3 : Int32) : wpX_create (fun r u' => wpY_create (fun r' v' => r' = r ∧ i_Rel (k + 6) u' v') v v1 v2 (lw_bz v3)) u v1 v2 (lw_bz v3) := by
  obtain ⟨ls, tl, ec, kc, es, tt, se, fr, st, dr, nm, pa, ve, sz, it, sm, hl, th, sp, tb, dl, dn, cc, cv, mn, mc, oc, on, om, op, tr, el, cm, sY, tY, dy, dm, vc, ms, me, cr, hd, hN, ps, la, ey, tn, tm, sn, sc, fn, fc, s, s', t, t', rfl, rfl, R⟩ := I
  obtain ⟨m, D, rx, dx⟩ := bt_xd v2
  have hb : bt_B (lw_bz v3) := lw_bz_01 v3
  unfold wpX_create
  by_cases hn : (∃ q, q < 4 ∧ v1 = nI q ∧ th q ≠ 0) ∧ bt_g m D
  · obtain ⟨⟨p, hp, rfl, tp⟩, gx⟩ := hn
    have ip := bt_ix4 hp
    have d9 := dx.1
    have d6 := gx.1
    by_cases en : m % 11 ≠ 0 ∧ m % 11 ≠ 10
    · have D1 : 1 ≤ D := by
        have h0 := dx.2 0
        rw [Nat.pow_zero, Nat.div_one] at h0
        have : 0 < D := h0.mpr (Nat.pos_of_ne_zero (fun z => en.1 (by rw [z])))
        omega
      refine xx_isP1 hp tp (br_f (by decide) (xx_path rx dx (fun _ => br_f (by decide) (xx_ends rx (fun _ => br_f (by decide) (xx_row rx ⟨bt_11, nm_r (bt_r11 rx.1) (xx_wol rx (fun y ry sg => ?_))⟩)) (fun z => absurd en z))) (fun z => absurd gx z)))
      obtain ⟨r, L', tr', el2, an, hT2, fX, fY⟩ := ev_R1 (ls := ls) (tl := tl) (ec := ec) (kc := kc) (st := st) (dr := dr) (nm := nm) (pa := pa) (ve := ve) (sz := sz) (it := it) (sm := sm) (hl := hl) (th := th) (sp := sp) (tb := tb) (dl := dl) (dn := dn) (cc := cc) (cv := cv) (mn := mn) (mc := mc) (oc := oc) (on := on) (om := om) (op := op) (tr := tr) (el := el) (cm := cm) R hp tp rx dx gx D1 ry sg
      have hey : ∀ ey2 : Nat → Int32, (∀ k, k < D → ey2 k = nI (m / 11 ^ (D - 1 - k) % 11)) → ey2 (nI D - 1).toNatClampNeg = nI (m % 11) := by
        intro ey2 h
        rw [bt_s1 (by omega), nI_clamp (by omega), h (D - 1) (by omega), Nat.sub_self, Nat.pow_zero, Nat.div_one]
      have id : vp_in (nI D - 1) 6 := by rw [bt_s1 (by omega)]; exact vp_in_nI (by omega) (by decide)
      have nD : ¬ nI D = 0 := nI_ne0 (by omega) (by omega)
      have n10 : ¬ nI (m % 11) = 10 := fun z => en.2 ((bt_e10 (by omega)).mp z)
      rcases bt_an2 an with ng | ⟨n, hn, rfl, zn, _⟩
      · refine fX _ (br_f ng ?_)
        unfold wpY_create
        exact yy_isPath1 hp tp rx dx gx (fun ey2 he => br_f (by decide) (br_f nD ⟨id, br_f (by rw [hey ey2 he]; exact n10) ⟨id, nm_r (hey ey2 he) (fY _ _ _ _ _ _ _ _ _ _ _ _ (fun es2 se2 ey3 tn2 tm2 sn2 sc2 ht => br_f ng ⟨rfl, bt_mkR R⟩))⟩⟩))
      · have J := R
        obtain ⟨RA, B1, B2, RS, RT, RP⟩ := J
        obtain ⟨hT, hC, hD⟩ := RP p hp tp
        obtain ⟨sa, ha, sb, hb4⟩ := RS.1 p hp
        have Nn : bt_N st (nI n) := ⟨n, hn, rfl, zn⟩
        obtain ⟨c, c1, c5, hv, hNs, hv0, hS⟩ := bt_view hC Nn
        have ho : ∀ k', bt_cf cc cv (s p) (nI n) = some k' → k' < 6 := fun k' hk' => (hS k' hk').1
        have i0 : (0 : Int32) ≤ nI n := nI_pos' (by omega)
        have ix := bt_ix48 hn
        by_cases d0 : dr n = 0
        · refine fX _ (br_t i0 ⟨ix.2.2.2.2.1, br_t (by rw [ix.2.2.2.2.2.1]; exact d0) ?_⟩)
          unfold wpY_create
          exact yy_isPath1 hp tp rx dx gx (fun ey2 he => br_f (by decide) (br_f nD ⟨id, br_f (by rw [hey ey2 he]; exact n10) ⟨id, nm_r (hey ey2 he) (fY _ _ _ _ _ _ _ _ _ _ _ _ (fun es2 se2 ey3 tn2 tm2 sn2 sc2 ht => br_t i0 ⟨ix.2.2.2.2.1, br_t (by rw [ix.2.2.2.2.2.1]; exact d0) ⟨rfl, bt_mkR R⟩⟩))⟩⟩))
        · refine fX _ (br_t i0 ⟨ix.2.2.2.2.1, br_f (by rw [ix.2.2.2.2.2.1]; exact d0) ⟨ip.2.2.2.2.1, ?_⟩⟩)
          rw [ip.2.2.2.2.2.1, sa]
          refine xx_coverOf ha (bt_Cc hC) (xx_lookUp ha c5 hv ho ?_)
          -- Y's walk up to the child
          have Yw : ∀ post : Int32 → SY → Prop,
              (∀ (es2 : Int32) (ey3 tn2 tm2 sn3 sc3 : Nat → Int32), (∀ m, m < c → sn3 m = bt_vg mn (s p) (nI n) (bt_cf cc cv (s p) (nI n)) m) → (∀ k, bt_cf cc cv (s p) (nI n) = some k → ∀ m, m < c → sc3 m = mc (5 * (6 * s p + k) + m)) →
                ((bt_o (bt_lk (fun d => bt_ch st pa nm d (nI (m % 11))) (bt_vg mn (s p) (nI n) (bt_cf cc cv (s p) (nI n))) 0 c) < 0 → ((bt_of (6 * s' p) (bt_cf cc cv (s p) (nI n)) < 0 → wY_create_164 post (lw_bz v3) (nI (m % 11)) (nI n) ls es2 (nI L') (nI c) fr st nm pa ve sz sm it dr th sY tY dl dy dm vc ms me cr hd hN ps la ey3 tn2 tm2 sn3 sc3 fn fc) ∧
                  (¬ bt_of (6 * s' p) (bt_cf cc cv (s p) (nI n)) < 0 → ∃ n118, wY_create_118 post (lw_bz v3) (nI (m % 11)) ls es2 (nI L') (nI c) fr st nm pa ve sz sm it dr th sY tY dl dy dm vc ms me cr hd hN ps la ey3 tn2 tm2 sn3 sc3 fn fc n118 0))) ∧
                 (¬ bt_o (bt_lk (fun d => bt_ch st pa nm d (nI (m % 11))) (bt_vg mn (s p) (nI n) (bt_cf cc cv (s p) (nI n))) 0 c) < 0 → post (-5) (ls, es2, nI L', nI c, fr, st, nm, pa, ve, sz, sm, it, dr, th, sY, tY, dl, dy, dm, vc, ms, me, cr, hd, hN, ps, la, ey3, tn2, tm2, sn3, sc3, fn, fc)))) →
              wpY_create post (ls, es, tt, se, fr, st, nm, pa, ve, sz, sm, it, dr, th, sY, tY, dl, dy, dm, vc, ms, me, cr, hd, hN, ps, la, ey, tn, tm, sn, sc, fn, fc) (nI p) v2 (lw_bz v3) := by
            intro post h
            unfold wpY_create
            refine yy_isPath1 hp tp rx dx gx (fun ey2 he => br_f (by decide) (br_f nD ⟨id, br_f (by rw [hey ey2 he]; exact n10) ⟨id, nm_r (hey ey2 he) (fY _ _ _ _ _ _ _ _ _ _ _ _ (fun es2 se2 ey3 tn2 tm2 sn2 sc2 ht => br_t i0 ⟨ix.2.2.2.2.1, br_f (by rw [ix.2.2.2.2.2.1]; exact d0) (yy_look hp hb4 sb B2 hC Nn rfl hv c1 c5 (fun sn3 sc3 g1 g2 g3 => yy_childSeen c5 g1 ?_))⟩))⟩⟩))
            refine br_c (fun z => ⟨ip.2.2.2.2.1, ?_⟩) (fun z => (h es2 ey3 tn2 tm2 sn3 sc3 g1 g3).2 z)
            have hh := (h es2 ey3 tn2 tm2 sn3 sc3 g1 g3).1 z
            rw [ip.2.2.2.2.2.1, sb]
            exact yy_coverOf hb4 hC (bt_Nx Nn) hh
          cases lk : bt_lk (fun d => bt_ch st pa nm d (nI (m % 11))) (bt_vg mn (s p) (nI n) (bt_cf cc cv (s p) (nI n))) 0 c with
          | some f =>
            have hf : f < 48 := by
              refine bt_lk_in (Q := fun f => f < 48) (fun y n hy => ?_) c 0 lk
              have := bt_f_s 45 3 hy
              omega
            have jf := bt_ix48 hf
            rw [lk] at Yw
            refine br_f jf.2.2.2.2.2.2 ?_
            have := Yw (fun r' v' => r' = -5 ∧ i_Rel (k + 6) (ls, nI L', nI (D - 1), kc, st, dr, nm, pa, ve, sz, it, sm, hl, th, sp, tb, dl, dn, cc, cv, mn, mc, oc, on, om, op, tr', el2, cm) v') (fun es2 ey3 tn2 tm2 sn3 sc3 g1 g3 => br_f jf.1 ⟨rfl, bt_mkR R⟩)
            exact this
          | none =>
            rw [lk] at Yw
            refine br_t rfl ?_
            cases oc0 : bt_cf cc cv (s p) (nI n) with
            | none =>
              obtain ⟨r2, ls2, st2, dr2, nm2, pa2, ve2, sz2, sm2, R2, tX, tY0⟩ := cr_tail (ls := ls) (tl := nI L') (ec := nI (D - 1)) (kc := kc) (st := st) (dr := dr) (nm := nm) (pa := pa) (ve := ve) (sz := sz) (it := it) (sm := sm) (hl := hl) (th := th) (sp := sp) (tb := tb) (dl := dl) (dn := dn) (cc := cc) (cv := cv) (mn := mn) (mc := mc) (oc := oc) (on := on) (om := om) (op := op) (tr := tr') (el := el2) (cm := cm) (b := lw_bz v3) (y := nI (m % 11)) R hn zn hb
              refine br_t rfl (tX _ ?_)
              have := Yw (fun r' v' => r' = r2 ∧ i_Rel (k + 6) (ls2, nI L', nI (D - 1), kc, st2, dr2, nm2, pa2, ve2, sz2, it, sm2, hl, th, sp, tb, dl, dn, cc, cv, mn, mc, oc, on, om, op, tr', el2, cm) v') (fun es2 ey3 tn2 tm2 sn3 sc3 g1 g3 => br_t (show (-1 : Int32) < 0 by decide) (by
                rw [oc0]
                exact br_t (show (-1 : Int32) < 0 by decide) (tY0 _ _ _ _ _ _ _ _ _ _ _ _ ⟨rfl, bt_mkR R2⟩)))
              exact this
            | some k6 =>
              obtain ⟨k6l, w1, w2, w3, w4, w5⟩ := hS k6 oc0
              have jk := bt_ix24 (q := 6 * s p + k6) (by omega)
              have jk' := bt_ix24 (q := 6 * s' p + k6) (by omega)
              refine br_f jk.2.2.2.2.2.2 (xx_creating (by omega) c5 w1 ?_)
              cases cf : bt_f (fun m => ¬ mc (5 * (6 * s p + k6) + m) = 0) 0 c with
              | none =>
                refine br_t rfl ?_
                have := Yw (fun r' v' => r' = -8 ∧ i_Rel (k + 6) (ls, nI L', nI (D - 1), kc, st, dr, nm, pa, ve, sz, it, sm, hl, th, sp, tb, dl, dn, cc, cv, mn, mc, oc, on, om, op, tr', el2, cm) v') (fun es2 ey3 tn2 tm2 sn3 sc3 g1 g3 => br_t (show (-1 : Int32) < 0 by decide) (by
                  rw [oc0]
                  refine br_f jk'.1 ⟨c + 1, yy_cm_l c5 (fun m' hm' => by rw [g3 k6 oc0 m' hm']) c 0 (c + 1) (by omega) (by omega) (fun f hf => ?_) (fun _ => br_t rfl ⟨rfl, bt_mkR R⟩)⟩
                  rw [cf] at hf; cases hf))
                exact this
              | some f =>
                obtain ⟨_, fc0, f0, _⟩ := bt_f_s c 0 cf
                have fc1 : f < c := by omega
                obtain ⟨q, hq, eq, sq⟩ := (w5 f fc1).2.2
                obtain ⟨r2, ls2, st2, dr2, nm2, pa2, ve2, sz2, sm2, R2, tX, tY0⟩ := cr_tail (ls := ls) (tl := nI L') (ec := nI (D - 1)) (kc := kc) (st := st) (dr := dr) (nm := nm) (pa := pa) (ve := ve) (sz := sz) (it := it) (sm := sm) (hl := hl) (th := th) (sp := sp) (tb := tb) (dl := dl) (dn := dn) (cc := cc) (cv := cv) (mn := mn) (mc := mc) (oc := oc) (on := on) (om := om) (op := op) (tr := tr') (el := el2) (cm := cm) (b := lw_bz v3) (y := nI (m % 11)) R hq sq hb
                show wX_create_117 _ (lw_bz v3) (nI (m % 11)) (mn (5 * (6 * s p + k6) + f)) _ _ _ _ _ _ _ _ _ _ _ _ _ _ _ _ _ _ _ _ _ _ _ _ _ _ _ _ _
                rw [eq]
                refine tX _ ?_
                have j5 := bt_ix5 (q := f) (by omega)
                have := Yw (fun r' v' => r' = r2 ∧ i_Rel (k + 6) (ls2, nI L', nI (D - 1), kc, st2, dr2, nm2, pa2, ve2, sz2, it, sm2, hl, th, sp, tb, dl, dn, cc, cv, mn, mc, oc, on, om, op, tr', el2, cm) v') (fun es2 ey3 tn2 tm2 sn3 sc3 g1 g3 => br_t (show (-1 : Int32) < 0 by decide) (by
                  rw [oc0] at g1 ⊢
                  refine br_f jk'.1 ⟨c + 1, yy_cm_l c5 (fun m' hm' => by rw [g3 k6 oc0 m' hm']) c 0 (c + 1) (by omega) (by omega) (fun f' hf' => ?_) (fun z => by rw [cf] at z; cases z)⟩
                  have ef : f' = f := by rw [cf] at hf'; cases hf'; rfl
                  subst ef
                  refine br_f (fun z => by have := bt_inj (by omega) (by omega) z; omega) ⟨j5.2.2.2.2.1, nm_r (show _ = nI q from ?_) (tY0 _ _ _ _ _ _ _ _ _ _ _ _ ⟨rfl, bt_mkR R2⟩)⟩
                  rw [j5.2.2.2.2.2.1, g1 f' fc1]; exact eq))
                exact this
    · refine xx_isP1 hp tp (br_f (by decide) (xx_path rx dx (fun _ => br_f (by decide) (xx_ends rx (fun z => absurd z en) (fun _ => br_t rfl ?_))) (fun z => absurd gx z)))
      unfold wpY_create
      refine yy_isPath1 hp tp rx dx gx (fun ey2 he => br_f (by decide) ?_)
      by_cases D0 : D = 0
      · subst D0
        exact br_t rfl ⟨rfl, bt_mkR R⟩
      · have nz : m % 11 ≠ 0 := by
          have := gx.2 0 (by omega)
          rw [Nat.pow_zero, Nat.div_one] at this
          exact this
        have e10 : m % 11 = 10 := Classical.byContradiction fun z => en ⟨nz, z⟩
        refine br_f (nI_ne0 (by omega) (by omega)) ?_
        rw [bt_s1 (by omega), nI_clamp (by omega), he (D - 1) (by omega), Nat.sub_self, Nat.pow_zero, Nat.div_one, e10]
        exact ⟨vp_in_nI (by omega) (by decide), br_t rfl ⟨rfl, bt_mkR R⟩⟩
  · by_cases hp : ∃ q, q < 4 ∧ v1 = nI q ∧ th q ≠ 0
    · obtain ⟨p, hp4, rfl, tp⟩ := hp
      have ng : ¬ bt_g m D := fun g => hn ⟨⟨p, hp4, rfl, tp⟩, g⟩
      refine xx_isP1 hp4 tp (br_f (by decide) (xx_path rx dx (fun z => absurd z ng) (fun _ => br_t rfl ?_)))
      unfold wpY_create
      exact yy_isPath0 rx dx hn (fun es2 ey2 => br_t rfl ⟨rfl, bt_mkR R⟩)
    · refine xx_isP0 hp (br_t rfl ?_)
      unfold wpY_create
      exact yy_isPath0 rx dx hn (fun es2 ey2 => br_t rfl ⟨rfl, bt_mkR R⟩)
end
section
section
variable {ls tl ec kc : Int32} {st dr nm pa ve sz it sm hl th sp tb dl dn cc cv mn mc oc on om op tr el cm : Nat → Int32} {es tt se fr : Int32} {sY tY dy dm vc ms me cr hd hN ps la ey tn tm sn sc fn fc : Nat → Int32} {s s' t t' : Nat → Nat}
theorem xx_cs64 {post : SX → Prop} {a0 a : Nat} (h0 : a0 < 4) (ha : a < 4) (ne : a0 ≠ a) (hBmc : ∀ i, bt_B (mc i))
    (h : ∀ mn2 mc2 : Nat → Int32, bt_cp mn mn2 (30 * a0) (30 * a) 30 → bt_cp mc mc2 (30 * a0) (30 * a) 30 → post (ls, tl, ec, kc, st, dr, nm, pa, ve, sz, it, sm, hl, th, sp, tb, dl, dn, cc, cv, mn2, mc2, oc, on, om, op, tr, el, cm)) :
    ∀ (e i n : Nat) (mn2 mc2 : Nat → Int32), i + e = 30 → e < n → bt_cp mn mn2 (30 * a0) (30 * a) i → bt_cp mc mc2 (30 * a0) (30 * a) i → wX_copySpace_64 post (nI a0) (nI a) 30 ls tl ec kc n (nI i) st dr nm pa ve sz it sm hl th sp tb dl dn cc cv mn2 mc2 oc on om op tr el cm := by
  have hd : 30 * a0 + 30 ≤ 30 * a ∨ 30 * a + 30 ≤ 30 * a0 := by rcases Nat.lt_or_gt_of_ne ne with z | z <;> omega
  intro e
  induction e with
  | zero =>
    intro i n mn2 mc2 hi hn c0 c1
    obtain ⟨n, rfl⟩ : ∃ n', n = n' + 1 := ⟨n - 1, by omega⟩
    have : i = 30 := by omega
    subst this
    exact br_t (by decide) (h _ _ c0 c1)
  | succ e ih =>
    intro i n mn2 mc2 hi hn c0 c1
    obtain ⟨n, rfl⟩ : ∃ n', n = n' + 1 := ⟨n - 1, by omega⟩
    have iS := bt_ix120 (q := 30 * a0 + i) (by omega)
    have iD := bt_ix120 (q := 30 * a + i) (by omega)
    have eS : nI a0 * 30 + nI i = nI (30 * a0 + i) := by rw [bt_m30, nI_add]
    have eD : nI a * 30 + nI i = nI (30 * a + i) := by rw [bt_m30, nI_add]
    refine br_f (nI_ge (b := 30) (by omega) (by decide)) ?_
    rw [eS, eD, iS.2.2.2.2.2.1, iD.2.2.2.2.2.1, bt_nB (bt_cp_B c1 hBmc _)]
    exact ⟨iS.2.2.2.2.1, iD.2.2.2.2.1, nm_e ⟨iS.2.2.2.2.1, iD.2.2.2.2.1, nm_e (nm_r (nI_1 _) (ih (i + 1) n _ _ (by omega) (by omega) (bt_cp_s c0 (len := 30) (by omega) hd rfl) (bt_cp_s c1 (len := 30) (by omega) hd rfl)))⟩⟩
theorem xx_cs2' {post : SX → Prop} {a0 a : Nat} (h0 : a0 < 4) (ha : a < 4) (ne : a0 ≠ a) (hBmc : ∀ i, bt_B (mc i))
    (h : ∀ cc2 cv2 mn2 mc2 : Nat → Int32, bt_cp cc cc2 (6 * a0) (6 * a) 6 → bt_cp cv cv2 (6 * a0) (6 * a) 6 → bt_cp mn mn2 (30 * a0) (30 * a) 30 → bt_cp mc mc2 (30 * a0) (30 * a) 30 → post (ls, tl, ec, kc, st, dr, nm, pa, ve, sz, it, sm, hl, th, sp, tb, dl, dn, cc2, cv2, mn2, mc2, oc, on, om, op, tr, el, cm))
    (cc2 cv2 : Nat → Int32) (h1 : bt_cp cc cc2 (6 * a0) (6 * a) 6) (h2 : bt_cp cv cv2 (6 * a0) (6 * a) 6) : ∃ n, wX_copySpace_64 post (nI a0) (nI a) 30 ls tl ec kc n 0 st dr nm pa ve sz it sm hl th sp tb dl dn cc2 cv2 mn mc oc on om op tr el cm :=
  ⟨31, xx_cs64 h0 ha ne hBmc (fun mn2 mc2 h3 h4 => h cc2 cv2 mn2 mc2 h1 h2 h3 h4) 30 0 31 mn mc rfl (by omega) bt_cp_0 bt_cp_0⟩
theorem xx_cs2 {post : SX → Prop} {a0 a : Nat} (h0 : a0 < 4) (ha : a < 4) (ne : a0 ≠ a)
    (h : ∀ cc2 cv2 : Nat → Int32, bt_cp cc cc2 (6 * a0) (6 * a) 6 → bt_cp cv cv2 (6 * a0) (6 * a) 6 → ∃ n, wX_copySpace_64 post (nI a0) (nI a) 30 ls tl ec kc n 0 st dr nm pa ve sz it sm hl th sp tb dl dn cc2 cv2 mn mc oc on om op tr el cm) :
    ∀ (e i n : Nat) (cc2 cv2 : Nat → Int32), i + e = 6 → e < n → bt_cp cc cc2 (6 * a0) (6 * a) i → bt_cp cv cv2 (6 * a0) (6 * a) i → wX_copySpace_2 post (nI a0) (nI a) ls tl ec kc n (nI i) st dr nm pa ve sz it sm hl th sp tb dl dn cc2 cv2 mn mc oc on om op tr el cm := by
  have hd : 6 * a0 + 6 ≤ 6 * a ∨ 6 * a + 6 ≤ 6 * a0 := by rcases Nat.lt_or_gt_of_ne ne with z | z <;> omega
  intro e
  induction e with
  | zero =>
    intro i n cc2 cv2 hi hn c0 c1
    obtain ⟨n, rfl⟩ : ∃ n', n = n' + 1 := ⟨n - 1, by omega⟩
    have : i = 6 := by omega
    subst this
    exact br_t (by decide) (h _ _ c0 c1)
  | succ e ih =>
    intro i n cc2 cv2 hi hn c0 c1
    obtain ⟨n, rfl⟩ : ∃ n', n = n' + 1 := ⟨n - 1, by omega⟩
    have iS := bt_ix24 (q := 6 * a0 + i) (by omega)
    have iD := bt_ix24 (q := 6 * a + i) (by omega)
    have eS : nI a0 * 6 + nI i = nI (6 * a0 + i) := by rw [bt_m6, nI_add]
    have eD : nI a * 6 + nI i = nI (6 * a + i) := by rw [bt_m6, nI_add]
    refine br_f (nI_ge (b := 6) (by omega) (by decide)) ?_
    rw [eS, eD, iS.2.2.2.2.2.1, iD.2.2.2.2.2.1]
    exact ⟨iS.2.2.2.2.1, iD.2.2.2.2.1, nm_e ⟨iS.2.2.2.2.1, iD.2.2.2.2.1, nm_e (nm_r (nI_1 _) (ih (i + 1) n _ _ (by omega) (by omega) (bt_cp_s c0 (len := 6) (by omega) hd rfl) (bt_cp_s c1 (len := 6) (by omega) hd rfl)))⟩⟩
theorem xx_copySpace {post : SX → Prop} {a0 a : Nat} (h0 : a0 < 4) (ha : a < 4) (ne : a0 ≠ a) (hBmc : ∀ i, bt_B (mc i))
    (h : ∀ cc2 cv2 mn2 mc2 : Nat → Int32, bt_cp cc cc2 (6 * a0) (6 * a) 6 → bt_cp cv cv2 (6 * a0) (6 * a) 6 → bt_cp mn mn2 (30 * a0) (30 * a) 30 → bt_cp mc mc2 (30 * a0) (30 * a) 30 → post (ls, tl, ec, kc, st, dr, nm, pa, ve, sz, it, sm, hl, th, sp, tb, dl, dn, cc2, cv2, mn2, mc2, oc, on, om, op, tr, el, cm)) : wpX_copySpace post (ls, tl, ec, kc, st, dr, nm, pa, ve, sz, it, sm, hl, th, sp, tb, dl, dn, cc, cv, mn, mc, oc, on, om, op, tr, el, cm) (nI a0) (nI a) :=
  ⟨7, xx_cs2 h0 ha ne (fun cc2 cv2 h1 h2 => xx_cs2' h0 ha ne hBmc h cc2 cv2 h1 h2) 6 0 7 cc cv rfl (by omega) bt_cp_0 bt_cp_0⟩
theorem xx_ct79 {post : SX → Prop} {a0 a : Nat} (h0 : a0 < 4) (ha : a < 4) (ne : a0 ≠ a)
    (h : ∀ on2 : Nat → Int32, bt_cp on on2 (20 * a0) (20 * a) 20 → post (ls, tl, ec, kc, st, dr, nm, pa, ve, sz, it, sm, hl, th, sp, tb, dl, dn, cc, cv, mn, mc, oc, on2, om, op, tr, el, cm)) :
    ∀ (e i n : Nat) (on2 : Nat → Int32), i + e = 20 → e < n → bt_cp on on2 (20 * a0) (20 * a) i → wX_copyTable_79 post (nI a0) (nI a) 20 ls tl ec kc n (nI i) st dr nm pa ve sz it sm hl th sp tb dl dn cc cv mn mc oc on2 om op tr el cm := by
  have hd : 20 * a0 + 20 ≤ 20 * a ∨ 20 * a + 20 ≤ 20 * a0 := by rcases Nat.lt_or_gt_of_ne ne with z | z <;> omega
  intro e
  induction e with
  | zero =>
    intro i n on2 hi hn c0
    obtain ⟨n, rfl⟩ : ∃ n', n = n' + 1 := ⟨n - 1, by omega⟩
    have : i = 20 := by omega
    subst this
    exact br_t (by decide) (h _ c0)
  | succ e ih =>
    intro i n on2 hi hn c0
    obtain ⟨n, rfl⟩ : ∃ n', n = n' + 1 := ⟨n - 1, by omega⟩
    have iS := bt_ix80 (q := 20 * a0 + i) (by omega)
    have iD := bt_ix80 (q := 20 * a + i) (by omega)
    have eS : nI a0 * 20 + nI i = nI (20 * a0 + i) := by rw [bt_m20, nI_add]
    have eD : nI a * 20 + nI i = nI (20 * a + i) := by rw [bt_m20, nI_add]
    refine br_f (nI_ge (b := 20) (by omega) (by decide)) ?_
    rw [eS, eD, iS.2.2.2.2.2.1, iD.2.2.2.2.2.1]
    exact ⟨iS.2.2.2.2.1, iD.2.2.2.2.1, nm_e (nm_r (nI_1 _) (ih (i + 1) n _ (by omega) (by omega) (bt_cp_s c0 (len := 20) (by omega) hd rfl)))⟩
theorem xx_ct2 {post : SX → Prop} {a0 a : Nat} (h0 : a0 < 4) (ha : a < 4) (ne : a0 ≠ a)
    (h : ∀ oc2 om2 op2 : Nat → Int32, bt_cp oc oc2 (4 * a0) (4 * a) 4 → bt_cp om om2 (4 * a0) (4 * a) 4 → bt_cp op op2 (4 * a0) (4 * a) 4 → ∃ n, wX_copyTable_79 post (nI a0) (nI a) 20 ls tl ec kc n 0 st dr nm pa ve sz it sm hl th sp tb dl dn cc cv mn mc oc2 on om2 op2 tr el cm) :
    ∀ (e i n : Nat) (oc2 om2 op2 : Nat → Int32), i + e = 4 → e < n → bt_cp oc oc2 (4 * a0) (4 * a) i → bt_cp om om2 (4 * a0) (4 * a) i → bt_cp op op2 (4 * a0) (4 * a) i → wX_copyTable_2 post (nI a0) (nI a) ls tl ec kc n (nI i) st dr nm pa ve sz it sm hl th sp tb dl dn cc cv mn mc oc2 on om2 op2 tr el cm := by
  have hd : 4 * a0 + 4 ≤ 4 * a ∨ 4 * a + 4 ≤ 4 * a0 := by rcases Nat.lt_or_gt_of_ne ne with z | z <;> omega
  intro e
  induction e with
  | zero =>
    intro i n oc2 om2 op2 hi hn c0 c1 c2
    obtain ⟨n, rfl⟩ : ∃ n', n = n' + 1 := ⟨n - 1, by omega⟩
    have : i = 4 := by omega
    subst this
    exact br_t (by decide) (h _ _ _ c0 c1 c2)
  | succ e ih =>
    intro i n oc2 om2 op2 hi hn c0 c1 c2
    obtain ⟨n, rfl⟩ : ∃ n', n = n' + 1 := ⟨n - 1, by omega⟩
    have iS := bt_ix16 (q := 4 * a0 + i) (by omega)
    have iD := bt_ix16 (q := 4 * a + i) (by omega)
    have eS : nI a0 * 4 + nI i = nI (4 * a0 + i) := by rw [bt_m4, nI_add]
    have eD : nI a * 4 + nI i = nI (4 * a + i) := by rw [bt_m4, nI_add]
    refine br_f (nI_ge (b := 4) (by omega) (by decide)) ?_
    rw [eS, eD, iS.2.2.2.2.2.1, iD.2.2.2.2.2.1]
    exact ⟨iS.2.2.2.2.1, iD.2.2.2.2.1, nm_e ⟨iS.2.2.2.2.1, iD.2.2.2.2.1, nm_e ⟨iS.2.2.2.2.1, iD.2.2.2.2.1, nm_e (nm_r (nI_1 _) (ih (i + 1) n _ _ _ (by omega) (by omega) (bt_cp_s c0 (len := 4) (by omega) hd rfl) (bt_cp_s c1 (len := 4) (by omega) hd rfl) (bt_cp_s c2 (len := 4) (by omega) hd rfl)))⟩⟩⟩
theorem xx_copyTable {post : SX → Prop} {a0 a : Nat} (h0 : a0 < 4) (ha : a < 4) (ne : a0 ≠ a)
    (h : ∀ oc2 om2 op2 on2 : Nat → Int32, bt_cp oc oc2 (4 * a0) (4 * a) 4 → bt_cp om om2 (4 * a0) (4 * a) 4 → bt_cp op op2 (4 * a0) (4 * a) 4 → bt_cp on on2 (20 * a0) (20 * a) 20 → post (ls, tl, ec, kc, st, dr, nm, pa, ve, sz, it, sm, hl, th, sp, tb, dl, dn, cc, cv, mn, mc, oc2, on2, om2, op2, tr, el, cm)) : wpX_copyTable post (ls, tl, ec, kc, st, dr, nm, pa, ve, sz, it, sm, hl, th, sp, tb, dl, dn, cc, cv, mn, mc, oc, on, om, op, tr, el, cm) (nI a0) (nI a) :=
  ⟨5, xx_ct2 h0 ha ne (fun oc2 om2 op2 h1 h2 h3 => ⟨21, xx_ct79 h0 ha ne (fun on2 h4 => h oc2 om2 op2 on2 h1 h2 h3 h4) 20 0 21 on rfl (by omega) bt_cp_0⟩) 4 0 5 oc om op rfl (by omega) bt_cp_0 bt_cp_0 bt_cp_0⟩
theorem xx_cd2 {post : SX → Prop} {a0 a : Nat} (h0 : a0 < 4) (ha : a < 4) (ne : a0 ≠ a)
    (h : ∀ dn2 : Nat → Int32, bt_cp dn dn2 (7 * a0) (7 * a) 7 → post (ls, tl, ec, kc, st, dr, nm, pa, ve, sz, it, sm, hl, th, sp, tb, upd dl a (dl a0), dn2, cc, cv, mn, mc, oc, on, om, op, tr, el, cm)) :
    ∀ (e i n : Nat) (dn2 : Nat → Int32), i + e = 7 → e < n → bt_cp dn dn2 (7 * a0) (7 * a) i → wX_copyDot_2 post (nI a0) (nI a) ls tl ec kc n (nI i) st dr nm pa ve sz it sm hl th sp tb dl dn2 cc cv mn mc oc on om op tr el cm := by
  have hd : 7 * a0 + 7 ≤ 7 * a ∨ 7 * a + 7 ≤ 7 * a0 := by rcases Nat.lt_or_gt_of_ne ne with z | z <;> omega
  intro e
  induction e with
  | zero =>
    intro i n dn2 hi hn c0
    obtain ⟨n, rfl⟩ : ∃ n', n = n' + 1 := ⟨n - 1, by omega⟩
    have : i = 7 := by omega
    subst this
    exact br_t (by decide) ⟨(bt_ix4 h0).2.2.2.2.1, (bt_ix4 ha).2.2.2.2.1, nm_r (by rw [(bt_ix4 h0).2.2.2.2.2.1, (bt_ix4 ha).2.2.2.2.2.1]) (h _ c0)⟩
  | succ e ih =>
    intro i n dn2 hi hn c0
    obtain ⟨n, rfl⟩ : ∃ n', n = n' + 1 := ⟨n - 1, by omega⟩
    have iS := bt_ix28 (q := 7 * a0 + i) (by omega)
    have iD := bt_ix28 (q := 7 * a + i) (by omega)
    have eS : nI a0 * 7 + nI i = nI (7 * a0 + i) := by rw [bt_m7, nI_add]
    have eD : nI a * 7 + nI i = nI (7 * a + i) := by rw [bt_m7, nI_add]
    refine br_f (nI_ge (b := 7) (by omega) (by decide)) ?_
    rw [eS, eD, iS.2.2.2.2.2.1, iD.2.2.2.2.2.1]
    exact ⟨iS.2.2.2.2.1, iD.2.2.2.2.1, nm_e (nm_r (nI_1 _) (ih (i + 1) n _ (by omega) (by omega) (bt_cp_s c0 (len := 7) (by omega) hd rfl)))⟩
theorem xx_copyDot {post : SX → Prop} {a0 a : Nat} (h0 : a0 < 4) (ha : a < 4) (ne : a0 ≠ a)
    (h : ∀ dn2 : Nat → Int32, bt_cp dn dn2 (7 * a0) (7 * a) 7 → post (ls, tl, ec, kc, st, dr, nm, pa, ve, sz, it, sm, hl, th, sp, tb, upd dl a (dl a0), dn2, cc, cv, mn, mc, oc, on, om, op, tr, el, cm)) : wpX_copyDot post (ls, tl, ec, kc, st, dr, nm, pa, ve, sz, it, sm, hl, th, sp, tb, dl, dn, cc, cv, mn, mc, oc, on, om, op, tr, el, cm) (nI a0) (nI a) :=
  ⟨8, xx_cd2 h0 ha ne h 7 0 8 dn rfl (by omega) bt_cp_0⟩
theorem yy_cs75 {post : SY → Prop} {a0 a : Nat} (h0 : a0 < 4) (ha : a < 4) (ne : a0 ≠ a) (hBcr : ∀ i, bt_B (cr i))
    (h : ∀ me2 cr2 : Nat → Int32, bt_cp me me2 (30 * a0) (30 * a) 30 → bt_cp cr cr2 (30 * a0) (30 * a) 30 → post (ls, es, tt, se, fr, st, nm, pa, ve, sz, sm, it, dr, th, sY, tY, dl, dy, dm, vc, ms, me2, cr2, hd, hN, ps, la, ey, tn, tm, sn, sc, fn, fc)) :
    ∀ (e i n : Nat) (me2 cr2 : Nat → Int32), i + e = 30 → e < n → bt_cp me me2 (30 * a0) (30 * a) i → bt_cp cr cr2 (30 * a0) (30 * a) i → wY_copySpace_75 post (nI a0) (nI a) ls es tt se fr n (nI i) st nm pa ve sz sm it dr th sY tY dl dy dm vc ms me2 cr2 hd hN ps la ey tn tm sn sc fn fc := by
  have hd : 30 * a0 + 30 ≤ 30 * a ∨ 30 * a + 30 ≤ 30 * a0 := by rcases Nat.lt_or_gt_of_ne ne with z | z <;> omega
  intro e
  induction e with
  | zero =>
    intro i n me2 cr2 hi hn c0 c1
    obtain ⟨n, rfl⟩ : ∃ n', n = n' + 1 := ⟨n - 1, by omega⟩
    have : i = 30 := by omega
    subst this
    exact br_t (by decide) (h _ _ c0 c1)
  | succ e ih =>
    intro i n me2 cr2 hi hn c0 c1
    obtain ⟨n, rfl⟩ : ∃ n', n = n' + 1 := ⟨n - 1, by omega⟩
    have iS := bt_ix120 (q := 30 * a0 + i) (by omega)
    have iD := bt_ix120 (q := 30 * a + i) (by omega)
    have eS : 30 * nI a0 + nI i = nI (30 * a0 + i) := by rw [bt_30m, nI_add]
    have eD : 30 * nI a + nI i = nI (30 * a + i) := by rw [bt_30m, nI_add]
    refine br_f (nI_ge (b := 30) (by omega) (by decide)) ?_
    rw [eS, eD, iS.2.2.2.2.2.1, iD.2.2.2.2.2.1, bt_nB (bt_cp_B c1 hBcr _)]
    exact ⟨iS.2.2.2.2.1, iD.2.2.2.2.1, nm_e ⟨iS.2.2.2.2.1, iD.2.2.2.2.1, nm_e (nm_r (nI_1 _) (ih (i + 1) n _ _ (by omega) (by omega) (bt_cp_s c0 (len := 30) (by omega) hd rfl) (bt_cp_s c1 (len := 30) (by omega) hd rfl)))⟩⟩
theorem yy_ct75 {post : SY → Prop} {a0 a : Nat} (h0 : a0 < 4) (ha : a < 4) (ne : a0 ≠ a)
    (h : ∀ hN2 : Nat → Int32, bt_cp hN hN2 (20 * a0) (20 * a) 20 → post (ls, es, tt, se, fr, st, nm, pa, ve, sz, sm, it, dr, th, sY, tY, dl, dy, dm, vc, ms, me, cr, hd, hN2, ps, la, ey, tn, tm, sn, sc, fn, fc)) :
    ∀ (e i n : Nat) (hN2 : Nat → Int32), i + e = 20 → e < n → bt_cp hN hN2 (20 * a0) (20 * a) i → wY_copyTable_75 post (nI a0) (nI a) ls es tt se fr n (nI i) st nm pa ve sz sm it dr th sY tY dl dy dm vc ms me cr hd hN2 ps la ey tn tm sn sc fn fc := by
  have hd : 20 * a0 + 20 ≤ 20 * a ∨ 20 * a + 20 ≤ 20 * a0 := by rcases Nat.lt_or_gt_of_ne ne with z | z <;> omega
  intro e
  induction e with
  | zero =>
    intro i n hN2 hi hn c0
    obtain ⟨n, rfl⟩ : ∃ n', n = n' + 1 := ⟨n - 1, by omega⟩
    have : i = 20 := by omega
    subst this
    exact br_t (by decide) (h _ c0)
  | succ e ih =>
    intro i n hN2 hi hn c0
    obtain ⟨n, rfl⟩ : ∃ n', n = n' + 1 := ⟨n - 1, by omega⟩
    have iS := bt_ix80 (q := 20 * a0 + i) (by omega)
    have iD := bt_ix80 (q := 20 * a + i) (by omega)
    have eS : 20 * nI a0 + nI i = nI (20 * a0 + i) := by rw [bt_20m, nI_add]
    have eD : 20 * nI a + nI i = nI (20 * a + i) := by rw [bt_20m, nI_add]
    refine br_f (nI_ge (b := 20) (by omega) (by decide)) ?_
    rw [eS, eD, iS.2.2.2.2.2.1, iD.2.2.2.2.2.1]
    exact ⟨iS.2.2.2.2.1, iD.2.2.2.2.1, nm_e (nm_r (nI_1 _) (ih (i + 1) n _ (by omega) (by omega) (bt_cp_s c0 (len := 20) (by omega) hd rfl)))⟩
theorem yy_ct2 {post : SY → Prop} {a0 a : Nat} (h0 : a0 < 4) (ha : a < 4) (ne : a0 ≠ a)
    (h : ∀ hd2 ps2 la2 : Nat → Int32, bt_cp hd hd2 (4 * a0) (4 * a) 4 → bt_cp ps ps2 (4 * a0) (4 * a) 4 → bt_cp la la2 (4 * a0) (4 * a) 4 → ∃ n, wY_copyTable_75 post (nI a0) (nI a) ls es tt se fr n 0 st nm pa ve sz sm it dr th sY tY dl dy dm vc ms me cr hd2 hN ps2 la2 ey tn tm sn sc fn fc) :
    ∀ (e i n : Nat) (hd2 ps2 la2 : Nat → Int32), i + e = 4 → e < n → bt_cp hd hd2 (4 * a0) (4 * a) i → bt_cp ps ps2 (4 * a0) (4 * a) i → bt_cp la la2 (4 * a0) (4 * a) i → wY_copyTable_2 post (nI a0) (nI a) ls es tt se fr n (nI i) st nm pa ve sz sm it dr th sY tY dl dy dm vc ms me cr hd2 hN ps2 la2 ey tn tm sn sc fn fc := by
  have hdj : 4 * a0 + 4 ≤ 4 * a ∨ 4 * a + 4 ≤ 4 * a0 := by rcases Nat.lt_or_gt_of_ne ne with z | z <;> omega
  intro e
  induction e with
  | zero =>
    intro i n hd2 ps2 la2 hi hn c0 c1 c2
    obtain ⟨n, rfl⟩ : ∃ n', n = n' + 1 := ⟨n - 1, by omega⟩
    have : i = 4 := by omega
    subst this
    exact br_t (by decide) (h _ _ _ c0 c1 c2)
  | succ e ih =>
    intro i n hd2 ps2 la2 hi hn c0 c1 c2
    obtain ⟨n, rfl⟩ : ∃ n', n = n' + 1 := ⟨n - 1, by omega⟩
    have iS := bt_ix16 (q := 4 * a0 + i) (by omega)
    have iD := bt_ix16 (q := 4 * a + i) (by omega)
    have eS : 4 * nI a0 + nI i = nI (4 * a0 + i) := by rw [bt_4m, nI_add]
    have eD : 4 * nI a + nI i = nI (4 * a + i) := by rw [bt_4m, nI_add]
    refine br_f (nI_ge (b := 4) (by omega) (by decide)) ?_
    rw [eS, eD, iS.2.2.2.2.2.1, iD.2.2.2.2.2.1]
    exact ⟨iS.2.2.2.2.1, iD.2.2.2.2.1, nm_e ⟨iS.2.2.2.2.1, iD.2.2.2.2.1, nm_e ⟨iS.2.2.2.2.1, iD.2.2.2.2.1, nm_e (nm_r (nI_1 _) (ih (i + 1) n _ _ _ (by omega) (by omega) (bt_cp_s c0 (len := 4) (by omega) hdj rfl) (bt_cp_s c1 (len := 4) (by omega) hdj rfl) (bt_cp_s c2 (len := 4) (by omega) hdj rfl)))⟩⟩⟩
theorem yy_copyTable {post : SY → Prop} {a0 a : Nat} (h0 : a0 < 4) (ha : a < 4) (ne : a0 ≠ a)
    (h : ∀ hd2 ps2 la2 hN2 : Nat → Int32, bt_cp hd hd2 (4 * a0) (4 * a) 4 → bt_cp ps ps2 (4 * a0) (4 * a) 4 → bt_cp la la2 (4 * a0) (4 * a) 4 → bt_cp hN hN2 (20 * a0) (20 * a) 20 → post (ls, es, tt, se, fr, st, nm, pa, ve, sz, sm, it, dr, th, sY, tY, dl, dy, dm, vc, ms, me, cr, hd2, hN2, ps2, la2, ey, tn, tm, sn, sc, fn, fc)) : wpY_copyTable post (ls, es, tt, se, fr, st, nm, pa, ve, sz, sm, it, dr, th, sY, tY, dl, dy, dm, vc, ms, me, cr, hd, hN, ps, la, ey, tn, tm, sn, sc, fn, fc) (nI a0) (nI a) :=
  ⟨5, yy_ct2 h0 ha ne (fun hd2 ps2 la2 h1 h2 h3 => ⟨21, yy_ct75 h0 ha ne (fun hN2 h4 => h hd2 ps2 la2 hN2 h1 h2 h3 h4) 20 0 21 hN rfl (by omega) bt_cp_0⟩) 4 0 5 hd ps la rfl (by omega) bt_cp_0 bt_cp_0 bt_cp_0⟩
theorem yy_f201 {post : Int32 → SY → Prop} {a0 a : Nat} (h0 : a0 < 4) (ha : a < 4) (ne : a0 ≠ a)
    (h : ∀ dy2 dm2 : Nat → Int32, bt_cp dy dy2 (7 * a0) (7 * a) 7 → bt_cp dm dm2 (7 * a0) (7 * a) 7 → post (nI a) (ls, es, tt, se, fr, st, nm, pa, ve, sz, sm, it, dr, th, sY, tY, dl, dy2, dm2, vc, ms, me, cr, hd, hN, ps, la, ey, tn, tm, sn, sc, fn, fc)) :
    ∀ (e i n : Nat) (dy2 dm2 : Nat → Int32), i + e = 7 → e < n → bt_cp dy dy2 (7 * a0) (7 * a) i → bt_cp dm dm2 (7 * a0) (7 * a) i → wY_fork_201 post (nI a0) (nI a) ls es tt se fr n (nI i) st nm pa ve sz sm it dr th sY tY dl dy2 dm2 vc ms me cr hd hN ps la ey tn tm sn sc fn fc := by
  have hd : 7 * a0 + 7 ≤ 7 * a ∨ 7 * a + 7 ≤ 7 * a0 := by rcases Nat.lt_or_gt_of_ne ne with z | z <;> omega
  intro e
  induction e with
  | zero =>
    intro i n dy2 dm2 hi hn c0 c1
    obtain ⟨n, rfl⟩ : ∃ n', n = n' + 1 := ⟨n - 1, by omega⟩
    have : i = 7 := by omega
    subst this
    exact br_t (by decide) (h _ _ c0 c1)
  | succ e ih =>
    intro i n dy2 dm2 hi hn c0 c1
    obtain ⟨n, rfl⟩ : ∃ n', n = n' + 1 := ⟨n - 1, by omega⟩
    have iS := bt_ix28 (q := 7 * a0 + i) (by omega)
    have iD := bt_ix28 (q := 7 * a + i) (by omega)
    have eS : 7 * nI a0 + nI i = nI (7 * a0 + i) := by rw [bt_7m, nI_add]
    have eD : 7 * nI a + nI i = nI (7 * a + i) := by rw [bt_7m, nI_add]
    refine br_f (nI_ge (b := 7) (by omega) (by decide)) ?_
    rw [eS, eD, iS.2.2.2.2.2.1, iD.2.2.2.2.2.1]
    exact ⟨iS.2.2.2.2.1, iD.2.2.2.2.1, nm_e ⟨iS.2.2.2.2.1, iD.2.2.2.2.1, nm_e (nm_r (nI_1 _) (ih (i + 1) n _ _ (by omega) (by omega) (bt_cp_s c0 (len := 7) (by omega) hd rfl) (bt_cp_s c1 (len := 7) (by omega) hd rfl)))⟩⟩
/-- what becomes of Y's covered: copied, or emptied -/
def bt_cvY (f : Int32) (vc vc2 : Nat → Int32) (a0 a i : Nat) : Prop := (f = 0 → bt_cp vc vc2 (6 * a0) (6 * a) i) ∧ (¬ f = 0 → (∀ k, k < i → vc2 (6 * a + k) = -1) ∧ ∀ x, (x < 6 * a ∨ 6 * a + i ≤ x) → vc2 x = vc x)
theorem yy_cs3 {post : SY → Prop} {a0 a : Nat} {f : Int32} (h0 : a0 < 4) (ha : a < 4) (ne : a0 ≠ a)
    (h : ∀ vc2 ms2 : Nat → Int32, bt_cvY f vc vc2 a0 a 6 → bt_cp ms ms2 (6 * a0) (6 * a) 6 → ∃ n, wY_copySpace_75 post (nI a0) (nI a) ls es tt se fr n 0 st nm pa ve sz sm it dr th sY tY dl dy dm vc2 ms2 me cr hd hN ps la ey tn tm sn sc fn fc) :
    ∀ (e i n : Nat) (vc2 ms2 : Nat → Int32), i + e = 6 → e < n → bt_cvY f vc vc2 a0 a i → bt_cp ms ms2 (6 * a0) (6 * a) i → wY_copySpace_3 post (nI a0) (nI a) f ls es tt se fr n (nI i) st nm pa ve sz sm it dr th sY tY dl dy dm vc2 ms2 me cr hd hN ps la ey tn tm sn sc fn fc := by
  have hd : 6 * a0 + 6 ≤ 6 * a ∨ 6 * a + 6 ≤ 6 * a0 := by rcases Nat.lt_or_gt_of_ne ne with z | z <;> omega
  intro e
  induction e with
  | zero =>
    intro i n vc2 ms2 hi hn c0 c1
    obtain ⟨n, rfl⟩ : ∃ n', n = n' + 1 := ⟨n - 1, by omega⟩
    have : i = 6 := by omega
    subst this
    exact br_t (by decide) (h _ _ c0 c1)
  | succ e ih =>
    intro i n vc2 ms2 hi hn c0 c1
    obtain ⟨n, rfl⟩ : ∃ n', n = n' + 1 := ⟨n - 1, by omega⟩
    have iS := bt_ix24 (q := 6 * a0 + i) (by omega)
    have iD := bt_ix24 (q := 6 * a + i) (by omega)
    have eS : 6 * nI a0 + nI i = nI (6 * a0 + i) := by rw [bt_6m, nI_add]
    have eD : 6 * nI a + nI i = nI (6 * a + i) := by rw [bt_6m, nI_add]
    refine br_f (nI_ge (b := 6) (by omega) (by decide)) ?_
    rw [eS, eD, iS.2.2.2.2.2.1]
    by_cases z : f = 0
    · refine br_t z ⟨iS.2.2.2.2.1, iD.2.2.2.2.1, nm_e ?_⟩
      rw [eS, eD, iS.2.2.2.2.2.1, iD.2.2.2.2.2.1]
      exact ⟨iS.2.2.2.2.1, iD.2.2.2.2.1, nm_e (nm_r (nI_1 _) (ih (i + 1) n _ _ (by omega) (by omega) ⟨fun _ => bt_cp_s (c0.1 z) (len := 6) (by omega) hd rfl, fun y => absurd z y⟩ (bt_cp_s c1 (len := 6) (by omega) hd rfl)))⟩
    · refine br_f z ⟨iD.2.2.2.2.1, nm_e ?_⟩
      rw [eS, eD, iS.2.2.2.2.2.1, iD.2.2.2.2.2.1]
      refine ⟨iS.2.2.2.2.1, iD.2.2.2.2.1, nm_e (nm_r (nI_1 _) (ih (i + 1) n _ _ (by omega) (by omega) ⟨fun y => absurd y z, fun _ => ⟨fun k hk => ?_, fun x hx => ?_⟩⟩ (bt_cp_s c1 (len := 6) (by omega) hd rfl)))⟩
      · by_cases w : k = i
        · rw [w, pk_us]
        · rw [pk_un (by omega)]; exact (c0.2 z).1 k (by omega)
      · rw [pk_un (by omega)]; exact (c0.2 z).2 x (by omega)
theorem bt_cvY_0 {f : Int32} {vc : Nat → Int32} {a0 a : Nat} : bt_cvY f vc vc a0 a 0 := ⟨fun _ => bt_cp_0, fun _ => ⟨fun k hk => by omega, fun x _ => rfl⟩⟩
theorem yy_copySpace {post : SY → Prop} {a0 a : Nat} {f : Int32} (h0 : a0 < 4) (ha : a < 4) (ne : a0 ≠ a) (hBcr : ∀ i, bt_B (cr i))
    (h : ∀ vc2 ms2 me2 cr2 : Nat → Int32, bt_cvY f vc vc2 a0 a 6 → bt_cp ms ms2 (6 * a0) (6 * a) 6 → bt_cp me me2 (30 * a0) (30 * a) 30 → bt_cp cr cr2 (30 * a0) (30 * a) 30 → post (ls, es, tt, se, fr, st, nm, pa, ve, sz, sm, it, dr, th, sY, tY, dl, dy, dm, vc2, ms2, me2, cr2, hd, hN, ps, la, ey, tn, tm, sn, sc, fn, fc)) : wpY_copySpace post (ls, es, tt, se, fr, st, nm, pa, ve, sz, sm, it, dr, th, sY, tY, dl, dy, dm, vc, ms, me, cr, hd, hN, ps, la, ey, tn, tm, sn, sc, fn, fc) (nI a0) (nI a) f :=
  ⟨7, yy_cs3 h0 ha ne (fun vc2 ms2 h1 h2 => ⟨31, yy_cs75 h0 ha ne hBcr (fun me2 cr2 h3 h4 => h vc2 ms2 me2 cr2 h1 h2 h3 h4) 30 0 31 me cr rfl (by omega) bt_cp_0 bt_cp_0⟩) 6 0 7 vc ms rfl (by omega) bt_cvY_0 bt_cp_0⟩
theorem xx_clear_l {post : SX → Prop} {a : Nat} (ha : a < 4) (h : ∀ cc2 : Nat → Int32, (∀ k, k < 6 → cc2 (6 * a + k) = 0) → (∀ x, (x < 6 * a ∨ 6 * a + 6 ≤ x) → cc2 x = cc x) → post (ls, tl, ec, kc, st, dr, nm, pa, ve, sz, it, sm, hl, th, sp, tb, dl, dn, cc2, cv, mn, mc, oc, on, om, op, tr, el, cm)) :
    ∀ (e i n : Nat) (cc2 : Nat → Int32), i + e = 6 → e < n → (∀ k, k < i → cc2 (6 * a + k) = 0) → (∀ x, (x < 6 * a ∨ 6 * a + 6 ≤ x) → cc2 x = cc x) → wX_clearSpace_2 post (nI a) ls tl ec kc n (nI i) st dr nm pa ve sz it sm hl th sp tb dl dn cc2 cv mn mc oc on om op tr el cm := by
  intro e
  induction e with
  | zero =>
    intro i n cc2 hi hn h1 h2
    obtain ⟨n, rfl⟩ : ∃ n', n = n' + 1 := ⟨n - 1, by omega⟩
    have : i = 6 := by omega
    subst this
    exact br_t (by decide) (h _ h1 h2)
  | succ e ih =>
    intro i n cc2 hi hn h1 h2
    obtain ⟨n, rfl⟩ : ∃ n', n = n' + 1 := ⟨n - 1, by omega⟩
    have iD := bt_ix24 (q := 6 * a + i) (by omega)
    have eD : nI a * 6 + nI i = nI (6 * a + i) := by rw [bt_m6, nI_add]
    refine br_f (nI_ge (b := 6) (by omega) (by decide)) ?_
    rw [eD, iD.2.2.2.2.2.1]
    refine ⟨iD.2.2.2.2.1, nm_e (nm_r (nI_1 _) (ih (i + 1) n _ (by omega) (by omega) (fun k hk => ?_) (fun x hx => ?_)))⟩
    · by_cases w : k = i
      · rw [w, pk_us]
      · rw [pk_un (by omega)]; exact h1 k (by omega)
    · rw [pk_un (by omega)]; exact h2 x hx
theorem xx_clear {post : SX → Prop} {a : Nat} (ha : a < 4) (h : ∀ cc2 : Nat → Int32, (∀ k, k < 6 → cc2 (6 * a + k) = 0) → (∀ x, (x < 6 * a ∨ 6 * a + 6 ≤ x) → cc2 x = cc x) → post (ls, tl, ec, kc, st, dr, nm, pa, ve, sz, it, sm, hl, th, sp, tb, dl, dn, cc2, cv, mn, mc, oc, on, om, op, tr, el, cm)) : wpX_clearSpace post (ls, tl, ec, kc, st, dr, nm, pa, ve, sz, it, sm, hl, th, sp, tb, dl, dn, cc, cv, mn, mc, oc, on, om, op, tr, el, cm) (nI a) :=
  ⟨7, xx_clear_l ha h 6 0 7 cc rfl (by omega) (fun k hk => by omega) (fun _ _ => rfl)⟩
theorem xx_fp_l {post : Int32 → Prop} : ∀ (e i n : Nat), i + e = 4 → e < n → post (bt_o (bt_f (fun p => th p = 0) i e)) → wX_freeProcess_2 post ls tl ec kc st dr nm pa ve sz it sm hl th sp tb dl dn cc cv mn mc oc on om op tr el cm n (nI i) := by
  intro e
  induction e with
  | zero =>
    intro i n hi hn h
    obtain ⟨n, rfl⟩ : ∃ n', n = n' + 1 := ⟨n - 1, by omega⟩
    have : i = 4 := by omega
    subst this
    exact br_t (by decide) h
  | succ e ih =>
    intro i n hi hn h
    obtain ⟨n, rfl⟩ : ∃ n', n = n' + 1 := ⟨n - 1, by omega⟩
    have ix := bt_ix4 (q := i) (by omega)
    simp only [bt_f] at h
    refine br_f ix.2.2.2.1 ⟨ix.2.2.2.2.1, ?_⟩
    rw [ix.2.2.2.2.2.1]
    refine br_c (fun z => ?_) (fun z => nm_r (nI_1 _) (ih (i + 1) n (by omega) (by omega) ?_))
    · rw [if_pos z] at h; exact h
    · rw [if_neg z] at h; exact h
theorem xx_fp {post : Int32 → Prop} (h : post (bt_o (bt_f (fun p => th p = 0) 0 4))) : wpX_freeProcess post (ls, tl, ec, kc, st, dr, nm, pa, ve, sz, it, sm, hl, th, sp, tb, dl, dn, cc, cv, mn, mc, oc, on, om, op, tr, el, cm) := ⟨5, xx_fp_l 4 0 5 rfl (by omega) h⟩
theorem yy_f22 {post : Int32 → SY → Prop} {x1 x2 x3 : Int32} : ∀ (e i n : Nat), i + e = 4 → e < n → (∀ c, bt_f (fun p => th p = 0) i e = some c → wY_fork_44 post x1 x2 x3 (nI c) ls es tt se fr st nm pa ve sz sm it dr th sY tY dl dy dm vc ms me cr hd hN ps la ey tn tm sn sc fn fc) → (bt_f (fun p => th p = 0) i e = none → wY_fork_44 post x1 x2 x3 4 ls es tt se fr st nm pa ve sz sm it dr th sY tY dl dy dm vc ms me cr hd hN ps la ey tn tm sn sc fn fc) → wY_fork_22 post x1 x2 x3 ls es tt se fr st nm pa ve sz sm it dr th sY tY dl dy dm vc ms me cr hd hN ps la ey tn tm sn sc fn fc n (nI i) := by
  intro e
  induction e with
  | zero =>
    intro i n hi hn h1 h2
    obtain ⟨n, rfl⟩ : ∃ n', n = n' + 1 := ⟨n - 1, by omega⟩
    have : i = 4 := by omega
    subst this
    exact br_t (by decide) (h2 rfl)
  | succ e ih =>
    intro i n hi hn h1 h2
    obtain ⟨n, rfl⟩ : ∃ n', n = n' + 1 := ⟨n - 1, by omega⟩
    have ix := bt_ix4 (q := i) (by omega)
    simp only [bt_f] at h1 h2
    refine br_f ix.2.2.2.1 ⟨ix.2.2.2.2.1, ?_⟩
    rw [ix.2.2.2.2.2.1]
    refine br_c (fun z => h1 i (if_pos z)) (fun z => nm_r (nI_1 _) ?_)
    rw [if_neg z] at h1 h2
    exact ih (i + 1) n (by omega) (by omega) h1 h2
theorem xx_unS_b {post : Int32 → Prop} {M : Nat} (hM : M < 16) (hex : ∃ j, j < 4 ∧ M.testBit j = false) (h : ∀ a, a < 4 → M.testBit a = false → post (nI a)) :
    ∀ (e n a : Nat), e ≤ 4 → e < n → a < 4 → ((∃ j, e ≤ j ∧ j < 4 ∧ M.testBit j = false) → M.testBit a = false) → wX_unusedOf__processSpace_37 post (nI M) ls tl ec kc st dr nm pa ve sz it sm hl th sp tb dl dn cc cv mn mc oc on om op tr el cm n (nI a) (nI e - 1) := by
  intro e
  induction e with
  | zero =>
    intro n a he hn ha hj
    obtain ⟨n, rfl⟩ : ∃ n', n = n' + 1 := ⟨n - 1, by omega⟩
    obtain ⟨j, j4, jf⟩ := hex
    exact br_t (by decide) (h a ha (hj ⟨j, by omega, j4, jf⟩))
  | succ e ih =>
    intro n a he hn ha hj
    obtain ⟨n, rfl⟩ : ∃ n', n = n' + 1 := ⟨n - 1, by omega⟩
    have ie := bt_ix4 (q := e) (by omega)
    rw [nI_pred]
    refine br_f ie.1 (ek_if (bt_and M hM e (by omega)) (fun z => nm_r (bt_am1 _) (ih n e (by omega) (by omega) (by omega) (fun _ => z))) (fun z => nm_r (bt_am1 _) (ih n a (by omega) (by omega) ha (fun ⟨j, j1, j2, j3⟩ => ?_))))
    by_cases w : j = e
    · rw [w] at j3; exact absurd j3 z
    · exact hj ⟨j, by omega, j2, j3⟩
theorem xx_unS_a {post : Int32 → Prop} (hs : ∀ p, p < 4 → sp p = nI (s p) ∧ s p < 4) (hex : ∃ j, j < 4 ∧ ∀ q, q < 4 → th q ≠ 0 → s q ≠ j) (h : ∀ a, a < 4 → (∀ q, q < 4 → th q ≠ 0 → s q ≠ a) → post (nI a)) :
    ∀ (e i n M : Nat), i + e = 4 → e < n → M < 16 → (∀ j, j < 4 → (M.testBit j = true ↔ ∃ q, q < i ∧ th q ≠ 0 ∧ s q = j)) → wX_unusedOf__processSpace_4 post ls tl ec kc st dr nm pa ve sz it sm hl th sp tb dl dn cc cv mn mc oc on om op tr el cm n (nI M) (nI i) := by
  intro e
  induction e with
  | zero =>
    intro i n M hi hn hM hj
    obtain ⟨n, rfl⟩ : ∃ n', n = n' + 1 := ⟨n - 1, by omega⟩
    have : i = 4 := by omega
    subst this
    obtain ⟨j, j4, jn⟩ := hex
    have tf : ∀ a, a < 4 → (M.testBit a = false ↔ ∀ q, q < 4 → th q ≠ 0 → s q ≠ a) := by
      intro a ha
      constructor
      · intro z q hq tq e
        have := (hj a ha).mpr ⟨q, hq, tq, e⟩
        rw [z] at this; cases this
      · intro z
        cases y : M.testBit a with
        | false => rfl
        | true =>
          obtain ⟨q, hq, tq, e⟩ := (hj a ha).mp y
          exact absurd e (z q hq tq)
    exact br_t (by decide) ⟨5, xx_unS_b hM ⟨j, j4, (tf j j4).mpr jn⟩ (fun a ha z => h a ha ((tf a ha).mp z)) 4 5 0 (by omega) (by omega) (by omega) (fun ⟨j, j1, j2, _⟩ => by omega)⟩
  | succ e ih =>
    intro i n M hi hn hM hj
    obtain ⟨n, rfl⟩ : ∃ n', n = n' + 1 := ⟨n - 1, by omega⟩
    have ix := bt_ix4 (q := i) (by omega)
    obtain ⟨es0, hs4⟩ := hs i (by omega)
    refine br_f ix.2.2.2.1 ⟨ix.2.2.2.2.1, ?_⟩
    rw [ix.2.2.2.2.2.1, es0]
    obtain ⟨o1, o2, o3⟩ := bt_or M hM (s i) hs4
    refine br_c (fun z => nm_r (nI_1 _) (ih (i + 1) n M (by omega) (by omega) hM (fun j j4 => (hj j j4).trans ⟨fun ⟨q, a, b, c⟩ => ⟨q, by omega, b, c⟩, fun ⟨q, a, b, c⟩ => ⟨q, ?_, b, c⟩⟩))) (fun z => ⟨ix.2.2.2.2.1, nm_r o1 (nm_r (nI_1 _) (ih (i + 1) n _ (by omega) (by omega) o2 (fun j j4 => ?_)))⟩)
    · have : q ≠ i := fun y => by subst y; exact b z
      omega
    · rw [o3 j j4, Bool.or_eq_true, hj j j4, decide_eq_true_iff]
      constructor
      · rintro (⟨q, a, b, c⟩ | y)
        · exact ⟨q, by omega, b, c⟩
        · exact ⟨i, by omega, z, y⟩
      · rintro ⟨q, a, b, c⟩
        by_cases y : q = i
        · subst y; exact Or.inr c
        · exact Or.inl ⟨q, by omega, b, c⟩
theorem xx_unS {post : Int32 → Prop} (hs : ∀ p, p < 4 → sp p = nI (s p) ∧ s p < 4) (hex : ∃ j, j < 4 ∧ ∀ q, q < 4 → th q ≠ 0 → s q ≠ j) (h : ∀ a, a < 4 → (∀ q, q < 4 → th q ≠ 0 → s q ≠ a) → post (nI a)) : wpX_unusedOf__processSpace post (ls, tl, ec, kc, st, dr, nm, pa, ve, sz, it, sm, hl, th, sp, tb, dl, dn, cc, cv, mn, mc, oc, on, om, op, tr, el, cm) :=
  ⟨5, xx_unS_a hs hex h 4 0 5 0 rfl (by omega) (by omega) (fun j j4 => ⟨fun z => (by rw [Nat.zero_testBit] at z; cases z), fun ⟨q, a, _⟩ => (by omega)⟩)⟩
theorem xx_unT_b {post : Int32 → Prop} {M : Nat} (hM : M < 16) (hex : ∃ j, j < 4 ∧ M.testBit j = false) (h : ∀ a, a < 4 → M.testBit a = false → post (nI a)) :
    ∀ (e n a : Nat), e ≤ 4 → e < n → a < 4 → ((∃ j, e ≤ j ∧ j < 4 ∧ M.testBit j = false) → M.testBit a = false) → wX_unusedOf__processTable_37 post (nI M) ls tl ec kc st dr nm pa ve sz it sm hl th sp tb dl dn cc cv mn mc oc on om op tr el cm n (nI a) (nI e - 1) := by
  intro e
  induction e with
  | zero =>
    intro n a he hn ha hj
    obtain ⟨n, rfl⟩ : ∃ n', n = n' + 1 := ⟨n - 1, by omega⟩
    obtain ⟨j, j4, jf⟩ := hex
    exact br_t (by decide) (h a ha (hj ⟨j, by omega, j4, jf⟩))
  | succ e ih =>
    intro n a he hn ha hj
    obtain ⟨n, rfl⟩ : ∃ n', n = n' + 1 := ⟨n - 1, by omega⟩
    have ie := bt_ix4 (q := e) (by omega)
    rw [nI_pred]
    refine br_f ie.1 (ek_if (bt_and M hM e (by omega)) (fun z => nm_r (bt_am1 _) (ih n e (by omega) (by omega) (by omega) (fun _ => z))) (fun z => nm_r (bt_am1 _) (ih n a (by omega) (by omega) ha (fun ⟨j, j1, j2, j3⟩ => ?_))))
    by_cases w : j = e
    · rw [w] at j3; exact absurd j3 z
    · exact hj ⟨j, by omega, j2, j3⟩
theorem xx_unT_a {post : Int32 → Prop} (hs : ∀ p, p < 4 → tb p = nI (s p) ∧ s p < 4) (hex : ∃ j, j < 4 ∧ ∀ q, q < 4 → th q ≠ 0 → s q ≠ j) (h : ∀ a, a < 4 → (∀ q, q < 4 → th q ≠ 0 → s q ≠ a) → post (nI a)) :
    ∀ (e i n M : Nat), i + e = 4 → e < n → M < 16 → (∀ j, j < 4 → (M.testBit j = true ↔ ∃ q, q < i ∧ th q ≠ 0 ∧ s q = j)) → wX_unusedOf__processTable_4 post ls tl ec kc st dr nm pa ve sz it sm hl th sp tb dl dn cc cv mn mc oc on om op tr el cm n (nI M) (nI i) := by
  intro e
  induction e with
  | zero =>
    intro i n M hi hn hM hj
    obtain ⟨n, rfl⟩ : ∃ n', n = n' + 1 := ⟨n - 1, by omega⟩
    have : i = 4 := by omega
    subst this
    obtain ⟨j, j4, jn⟩ := hex
    have tf : ∀ a, a < 4 → (M.testBit a = false ↔ ∀ q, q < 4 → th q ≠ 0 → s q ≠ a) := by
      intro a ha
      constructor
      · intro z q hq tq e
        have := (hj a ha).mpr ⟨q, hq, tq, e⟩
        rw [z] at this; cases this
      · intro z
        cases y : M.testBit a with
        | false => rfl
        | true =>
          obtain ⟨q, hq, tq, e⟩ := (hj a ha).mp y
          exact absurd e (z q hq tq)
    exact br_t (by decide) ⟨5, xx_unT_b hM ⟨j, j4, (tf j j4).mpr jn⟩ (fun a ha z => h a ha ((tf a ha).mp z)) 4 5 0 (by omega) (by omega) (by omega) (fun ⟨j, j1, j2, _⟩ => by omega)⟩
  | succ e ih =>
    intro i n M hi hn hM hj
    obtain ⟨n, rfl⟩ : ∃ n', n = n' + 1 := ⟨n - 1, by omega⟩
    have ix := bt_ix4 (q := i) (by omega)
    obtain ⟨es0, hs4⟩ := hs i (by omega)
    refine br_f ix.2.2.2.1 ⟨ix.2.2.2.2.1, ?_⟩
    rw [ix.2.2.2.2.2.1, es0]
    obtain ⟨o1, o2, o3⟩ := bt_or M hM (s i) hs4
    refine br_c (fun z => nm_r (nI_1 _) (ih (i + 1) n M (by omega) (by omega) hM (fun j j4 => (hj j j4).trans ⟨fun ⟨q, a, b, c⟩ => ⟨q, by omega, b, c⟩, fun ⟨q, a, b, c⟩ => ⟨q, ?_, b, c⟩⟩))) (fun z => ⟨ix.2.2.2.2.1, nm_r o1 (nm_r (nI_1 _) (ih (i + 1) n _ (by omega) (by omega) o2 (fun j j4 => ?_)))⟩)
    · have : q ≠ i := fun y => by subst y; exact b z
      omega
    · rw [o3 j j4, Bool.or_eq_true, hj j j4, decide_eq_true_iff]
      constructor
      · rintro (⟨q, a, b, c⟩ | y)
        · exact ⟨q, by omega, b, c⟩
        · exact ⟨i, by omega, z, y⟩
      · rintro ⟨q, a, b, c⟩
        by_cases y : q = i
        · subst y; exact Or.inr c
        · exact Or.inl ⟨q, by omega, b, c⟩
theorem xx_unT {post : Int32 → Prop} (hs : ∀ p, p < 4 → tb p = nI (s p) ∧ s p < 4) (hex : ∃ j, j < 4 ∧ ∀ q, q < 4 → th q ≠ 0 → s q ≠ j) (h : ∀ a, a < 4 → (∀ q, q < 4 → th q ≠ 0 → s q ≠ a) → post (nI a)) : wpX_unusedOf__processTable post (ls, tl, ec, kc, st, dr, nm, pa, ve, sz, it, sm, hl, th, sp, tb, dl, dn, cc, cv, mn, mc, oc, on, om, op, tr, el, cm) :=
  ⟨5, xx_unT_a hs hex h 4 0 5 0 rfl (by omega) (by omega) (fun j j4 => ⟨fun z => (by rw [Nat.zero_testBit] at z; cases z), fun ⟨q, a, _⟩ => (by omega)⟩)⟩
theorem yy_spaceU {post : Int32 → Prop} {b : Nat} (hb : b < 4) (hs : ∀ p, p < 4 → sY p = nI (s' p) ∧ s' p < 4) (h1 : (∃ q, q < 4 ∧ th q ≠ 0 ∧ s' q = b) → post 1) (h0 : (∀ q, q < 4 → th q ≠ 0 → s' q ≠ b) → post 0) : wpY_spaceUsed post (ls, es, tt, se, fr, st, nm, pa, ve, sz, sm, it, dr, th, sY, tY, dl, dy, dm, vc, ms, me, cr, hd, hN, ps, la, ey, tn, tm, sn, sc, fn, fc) (nI b) := by
  have key : ∀ (e i n : Nat), i + e = 4 → e < n → (∀ q, q < i → th q ≠ 0 → s' q ≠ b) → wY_spaceUsed_2 post (nI b) ls es tt se fr st nm pa ve sz sm it dr th sY tY dl dy dm vc ms me cr hd hN ps la ey tn tm sn sc fn fc n (nI i) := by
    intro e
    induction e with
    | zero =>
      intro i n hi hn no
      obtain ⟨n, rfl⟩ : ∃ n', n = n' + 1 := ⟨n - 1, by omega⟩
      have : i = 4 := by omega
      subst this
      exact br_t (by decide) (h0 no)
    | succ e ih =>
      intro i n hi hn no
      obtain ⟨n, rfl⟩ : ∃ n', n = n' + 1 := ⟨n - 1, by omega⟩
      have ix := bt_ix4 (q := i) (by omega)
      obtain ⟨es0, hs4⟩ := hs i (by omega)
      refine br_f ix.2.2.2.1 ⟨ix.2.2.2.2.1, ?_⟩
      rw [ix.2.2.2.2.2.1, es0]
      refine br_c (fun z => nm_r (nI_1 _) (ih (i + 1) n (by omega) (by omega) (fun q hq tq => ?_))) (fun z => ⟨ix.2.2.2.2.1, ek_if (nI_eq (by omega) (by omega)) (fun y => h1 ⟨i, by omega, z, y⟩) (fun y => nm_r (nI_1 _) (ih (i + 1) n (by omega) (by omega) (fun q hq tq => ?_)))⟩)
      · have : q ≠ i := fun y => by subst y; exact tq z
        exact no q (by omega) tq
      · by_cases w : q = i
        · rw [w]; exact y
        · exact no q (by omega) tq
  exact ⟨5, key 4 0 5 rfl (by omega) (fun q hq => by omega)⟩
theorem yy_tableU {post : Int32 → Prop} {b : Nat} (hb : b < 4) (hs : ∀ p, p < 4 → tY p = nI (s' p) ∧ s' p < 4) (h1 : (∃ q, q < 4 ∧ th q ≠ 0 ∧ s' q = b) → post 1) (h0 : (∀ q, q < 4 → th q ≠ 0 → s' q ≠ b) → post 0) : wpY_tableUsed post (ls, es, tt, se, fr, st, nm, pa, ve, sz, sm, it, dr, th, sY, tY, dl, dy, dm, vc, ms, me, cr, hd, hN, ps, la, ey, tn, tm, sn, sc, fn, fc) (nI b) := by
  have key : ∀ (e i n : Nat), i + e = 4 → e < n → (∀ q, q < i → th q ≠ 0 → s' q ≠ b) → wY_tableUsed_2 post (nI b) ls es tt se fr st nm pa ve sz sm it dr th sY tY dl dy dm vc ms me cr hd hN ps la ey tn tm sn sc fn fc n (nI i) := by
    intro e
    induction e with
    | zero =>
      intro i n hi hn no
      obtain ⟨n, rfl⟩ : ∃ n', n = n' + 1 := ⟨n - 1, by omega⟩
      have : i = 4 := by omega
      subst this
      exact br_t (by decide) (h0 no)
    | succ e ih =>
      intro i n hi hn no
      obtain ⟨n, rfl⟩ : ∃ n', n = n' + 1 := ⟨n - 1, by omega⟩
      have ix := bt_ix4 (q := i) (by omega)
      obtain ⟨es0, hs4⟩ := hs i (by omega)
      refine br_f ix.2.2.2.1 ⟨ix.2.2.2.2.1, ?_⟩
      rw [ix.2.2.2.2.2.1, es0]
      refine br_c (fun z => nm_r (nI_1 _) (ih (i + 1) n (by omega) (by omega) (fun q hq tq => ?_))) (fun z => ⟨ix.2.2.2.2.1, ek_if (nI_eq (by omega) (by omega)) (fun y => h1 ⟨i, by omega, z, y⟩) (fun y => nm_r (nI_1 _) (ih (i + 1) n (by omega) (by omega) (fun q hq tq => ?_)))⟩)
      · have : q ≠ i := fun y => by subst y; exact tq z
        exact no q (by omega) tq
      · by_cases w : q = i
        · rw [w]; exact y
        · exact no q (by omega) tq
  exact ⟨5, key 4 0 5 rfl (by omega) (fun q hq => by omega)⟩
end
end
section
/-- what X has done for the new process's space -/
def bt_pX (mode : Nat) (th : Nat → Int32) (s : Nat → Nat) (a0 a : Nat) (cc cv mn mc cc2 cv2 mn2 mc2 : Nat → Int32) : Prop :=
  (mode = 0 ∧ a = a0 ∧ cc2 = cc ∧ cv2 = cv ∧ mn2 = mn ∧ mc2 = mc) ∨
  (mode = 1 ∧ a < 4 ∧ (∀ q, q < 4 → th q ≠ 0 → s q ≠ a) ∧ bt_cp cc cc2 (6 * a0) (6 * a) 6 ∧ bt_cp cv cv2 (6 * a0) (6 * a) 6 ∧ bt_cp mn mn2 (30 * a0) (30 * a) 30 ∧ bt_cp mc mc2 (30 * a0) (30 * a) 30) ∨
  (mode = 2 ∧ a < 4 ∧ (∀ q, q < 4 → th q ≠ 0 → s q ≠ a) ∧ (∀ k, k < 6 → cc2 (6 * a + k) = 0) ∧ (∀ x, (x < 6 * a ∨ 6 * a + 6 ≤ x) → cc2 x = cc x) ∧ cv2 = cv ∧ mn2 = mn ∧ mc2 = mc)
def bt_pY (mode : Nat) (th : Nat → Int32) (s : Nat → Nat) (a0 a : Nat) (vc ms me cr vc2 ms2 me2 cr2 : Nat → Int32) : Prop :=
  (mode = 0 ∧ a = a0 ∧ vc2 = vc ∧ ms2 = ms ∧ me2 = me ∧ cr2 = cr) ∨
  (1 ≤ mode ∧ a < 4 ∧ (∀ q, q < 4 → th q ≠ 0 → s q ≠ a) ∧ (mode = 1 → bt_cp vc vc2 (6 * a0) (6 * a) 6) ∧ (mode = 2 → (∀ k, k < 6 → vc2 (6 * a + k) = -1) ∧ ∀ x, (x < 6 * a ∨ 6 * a + 6 ≤ x) → vc2 x = vc x) ∧
    bt_cp ms ms2 (6 * a0) (6 * a) 6 ∧ bt_cp me me2 (30 * a0) (30 * a) 30 ∧ bt_cp cr cr2 (30 * a0) (30 * a) 30)
def bt_qX (sh : Int32) (th : Nat → Int32) (t : Nat → Nat) (a0 a : Nat) (oc on om op oc2 on2 om2 op2 : Nat → Int32) : Prop :=
  (¬ sh = 0 ∧ a = a0 ∧ oc2 = oc ∧ on2 = on ∧ om2 = om ∧ op2 = op) ∨
  (sh = 0 ∧ a < 4 ∧ (∀ q, q < 4 → th q ≠ 0 → t q ≠ a) ∧ bt_cp oc oc2 (4 * a0) (4 * a) 4 ∧ bt_cp om om2 (4 * a0) (4 * a) 4 ∧ bt_cp op op2 (4 * a0) (4 * a) 4 ∧ bt_cp on on2 (20 * a0) (20 * a) 20)
section
variable {ls tl ec kc : Int32} {st dr nm pa ve sz it sm hl th sp tb dl dn cc cv mn mc oc on om op tr el cm : Nat → Int32} {es tt se fr : Int32} {sY tY dy dm vc ms me cr hd hN ps la ey tn tm sn sc fn fc : Nat → Int32} {s s' t t' : Nat → Nat}
variable {cc2 cv2 mn2 mc2 vc2 ms2 me2 cr2 oc2 on2 om2 op2 hd2 hN2 ps2 la2 dn2 dy2 dm2 : Nat → Int32}
theorem bt_C_cp {a0 a b0 b : Nat} (hC : ∀ k, k < 6 → bt_C st cc cv mn mc vc ms me cr (6 * a0 + k) (6 * b0 + k))
    (x1 : bt_cp cc cc2 (6 * a0) (6 * a) 6) (x2 : bt_cp cv cv2 (6 * a0) (6 * a) 6) (x3 : bt_cp mn mn2 (30 * a0) (30 * a) 30) (x4 : bt_cp mc mc2 (30 * a0) (30 * a) 30)
    (y1 : bt_cp vc vc2 (6 * b0) (6 * b) 6) (y2 : bt_cp ms ms2 (6 * b0) (6 * b) 6) (y3 : bt_cp me me2 (30 * b0) (30 * b) 30) (y4 : bt_cp cr cr2 (30 * b0) (30 * b) 30) :
    ∀ k, k < 6 → bt_C st cc2 cv2 mn2 mc2 vc2 ms2 me2 cr2 (6 * a + k) (6 * b + k) := by
  intro k hk
  have ix : ∀ a m, 5 * (6 * a + k) + m = 30 * a + (5 * k + m) := fun a m => by omega
  rcases hC k hk with ⟨u, w⟩ | ⟨c, c1, c5, u1, u2, u3, u4, u5⟩
  · exact Or.inl ⟨(x1.1 k hk).trans u, (y1.1 k hk).trans w⟩
  · refine Or.inr ⟨c, c1, c5, (x1.1 k hk).trans u1, (y2.1 k hk).trans u2, ?_, ?_, fun m hm => ?_⟩
    · rw [x2.1 k hk, y1.1 k hk]; exact u3
    · rw [x2.1 k hk]; exact u4
    · have h30 : 5 * k + m < 30 := by omega
      have := u5 m hm
      rw [ix, ix] at this
      rw [ix, ix, x3.1 _ h30, x4.1 _ h30, y3.1 _ h30, y4.1 _ h30]
      exact this
theorem bt_D_cp {a0 a b0 b : Nat} (hD : ∀ k, k < 4 → bt_D st dr sz oc on om op hd hN ps la (4 * a0 + k) (4 * b0 + k))
    (x1 : bt_cp oc oc2 (4 * a0) (4 * a) 4) (x2 : bt_cp om om2 (4 * a0) (4 * a) 4) (x3 : bt_cp op op2 (4 * a0) (4 * a) 4) (x4 : bt_cp on on2 (20 * a0) (20 * a) 20)
    (y1 : bt_cp hd hd2 (4 * b0) (4 * b) 4) (y2 : bt_cp ps ps2 (4 * b0) (4 * b) 4) (y3 : bt_cp la la2 (4 * b0) (4 * b) 4) (y4 : bt_cp hN hN2 (20 * b0) (20 * b) 20) :
    ∀ k, k < 4 → bt_D st dr sz oc2 on2 om2 op2 hd2 hN2 ps2 la2 (4 * a + k) (4 * b + k) := by
  intro k hk
  have ix : ∀ a m, 5 * (4 * a + k) + m = 20 * a + (5 * k + m) := fun a m => by omega
  have ix0 : ∀ a, 5 * (4 * a + k) = 20 * a + 5 * k := fun a => by omega
  obtain ⟨c, c5, u1, u2, u3, u4⟩ := hD k hk
  refine ⟨c, c5, (x1.1 k hk).trans u1, (y1.1 k hk).trans u2, fun m hm => ?_, fun h => ?_⟩
  · have h20 : 5 * k + m < 20 := by omega
    have := u3 m hm
    rw [ix, ix] at this
    rw [ix, ix, x4.1 _ h20, y4.1 _ h20]; exact this
  · obtain ⟨n, hn, en, kd⟩ := u4 h
    rw [ix0] at en
    refine ⟨n, hn, ?_, ?_⟩
    · rw [ix0, x4.1 (5 * k) (by omega)]; exact en
    · rw [x2.1 k hk, x3.1 k hk, y2.1 k hk, y3.1 k hk]; exact kd
/-- the new process's space, both sides -/
theorem bt_spc {p a b mode : Nat} (R : bt_R st dr nm pa sz th dl sp tb dn cc cv mn mc oc on om op sY tY dy dm vc ms me cr hd hN ps la s s' t t') (hp : p < 4) (tp : th p ≠ 0) (hX : bt_pX mode th s (s p) a cc cv mn mc cc2 cv2 mn2 mc2) (hY : bt_pY mode th s' (s' p) b vc ms me cr vc2 ms2 me2 cr2) :
    bt_R st dr nm pa sz th dl sp tb dn cc2 cv2 mn2 mc2 oc on om op sY tY dy dm vc2 ms2 me2 cr2 hd hN ps la s s' t t' ∧ a < 4 ∧ b < 4 ∧ (∀ q, q < 4 → th q ≠ 0 → (s q = a ↔ s' q = b)) ∧ ∀ k, k < 6 → bt_C st cc2 cv2 mn2 mc2 vc2 ms2 me2 cr2 (6 * a + k) (6 * b + k) := by
  have J := R
  obtain ⟨RA, B1, B2, RS, RT, RP⟩ := J
  have hC := (RP p hp tp).2.1
  rcases hX with ⟨m0, rfl, rfl, rfl, rfl, rfl⟩ | ⟨m1, a4, fa, x1, x2, x3, x4⟩ | ⟨m2, a4, fa, x1, x2, rfl, rfl, rfl⟩
  · rcases hY with ⟨_, rfl, rfl, rfl, rfl, rfl⟩ | ⟨m1, _⟩
    · exact ⟨R, (RS.1 p hp).2.1, (RS.1 p hp).2.2.2, fun q hq tq => RS.2 q p hq hp tq tp, hC⟩
    · omega
  · rcases hY with ⟨m0, _⟩ | ⟨_, b4, fb, y1, _, y2, y3, y4⟩
    · omega
    · refine ⟨?_, a4, b4, fun q hq tq => ⟨fun e => absurd e (fa q hq tq), fun e => absurd e (fb q hq tq)⟩, bt_C_cp hC x1 x2 x3 x4 (y1 m1) y2 y3 y4⟩
      exact bt_frC (a := a) (b := b) R fa fb (fun x hx => ⟨x1.2 x hx, x2.2 x hx⟩) (fun x hx => ⟨x3.2 x hx, x4.2 x hx⟩) (fun x hx => ⟨(y1 m1).2 x hx, y2.2 x hx⟩) (fun x hx => ⟨y3.2 x hx, y4.2 x hx⟩) (bt_cp_B x4 B1) (bt_cp_B y4 B2)
  · rcases hY with ⟨m0, _⟩ | ⟨_, b4, fb, _, y1, y2, y3, y4⟩
    · omega
    · refine ⟨?_, a4, b4, fun q hq tq => ⟨fun e => absurd e (fa q hq tq), fun e => absurd e (fb q hq tq)⟩, fun k hk => Or.inl ⟨x1 k hk, (y1 m2).1 k hk⟩⟩
      exact bt_frC (a := a) (b := b) R fa fb (fun x hx => ⟨x2 x hx, rfl⟩) (fun x hx => ⟨rfl, rfl⟩) (fun x hx => ⟨(y1 m2).2 x hx, y2.2 x hx⟩) (fun x hx => ⟨y3.2 x hx, y4.2 x hx⟩) B1 (bt_cp_B y4 B2)
theorem bt_tbl {p a b : Nat} {sh : Int32} (R : bt_R st dr nm pa sz th dl sp tb dn cc cv mn mc oc on om op sY tY dy dm vc ms me cr hd hN ps la s s' t t') (hp : p < 4) (tp : th p ≠ 0) (hX : bt_qX sh th t (t p) a oc on om op oc2 on2 om2 op2) (hY : bt_qX sh th t' (t' p) b hd hN ps la hd2 hN2 ps2 la2) :
    bt_R st dr nm pa sz th dl sp tb dn cc cv mn mc oc2 on2 om2 op2 sY tY dy dm vc ms me cr hd2 hN2 ps2 la2 s s' t t' ∧ a < 4 ∧ b < 4 ∧ (∀ q, q < 4 → th q ≠ 0 → (t q = a ↔ t' q = b)) ∧ ∀ k, k < 4 → bt_D st dr sz oc2 on2 om2 op2 hd2 hN2 ps2 la2 (4 * a + k) (4 * b + k) := by
  have J := R
  obtain ⟨RA, B1, B2, RS, RT, RP⟩ := J
  have hD := (RP p hp tp).2.2
  rcases hX with ⟨m0, rfl, rfl, rfl, rfl, rfl⟩ | ⟨m1, a4, fa, x1, x2, x3, x4⟩
  · rcases hY with ⟨_, rfl, rfl, rfl, rfl, rfl⟩ | ⟨m1, _⟩
    · exact ⟨R, (RT.1 p hp).2.1, (RT.1 p hp).2.2.2, fun q hq tq => RT.2 q p hq hp tq tp, hD⟩
    · exact absurd m1 m0
  · rcases hY with ⟨m0, _⟩ | ⟨_, b4, fb, y1, y2, y3, y4⟩
    · exact absurd m1 m0
    · refine ⟨?_, a4, b4, fun q hq tq => ⟨fun e => absurd e (fa q hq tq), fun e => absurd e (fb q hq tq)⟩, bt_D_cp hD x1 x2 x3 x4 y1 y2 y3 y4⟩
      exact bt_frD (a := a) (b := b) R fa fb (fun x hx => ⟨x1.2 x hx, x2.2 x hx, x3.2 x hx⟩) (fun x hx => x4.2 x hx) (fun x hx => ⟨y1.2 x hx, y2.2 x hx, y3.2 x hx⟩) (fun x hx => y4.2 x hx)
/-- the whole of fork on the relation -/
theorem bt_fork {p c a b a' b' mode : Nat} {sh : Int32} (R : bt_R st dr nm pa sz th dl sp tb dn cc cv mn mc oc on om op sY tY dy dm vc ms me cr hd hN ps la s s' t t') (hp : p < 4) (tp : th p ≠ 0) (hc : c < 4) (tc : th c = 0)
    (hX : bt_pX mode th s (s p) a cc cv mn mc cc2 cv2 mn2 mc2) (hY : bt_pY mode th s' (s' p) b vc ms me cr vc2 ms2 me2 cr2)
    (qX : bt_qX sh th t (t p) a' oc on om op oc2 on2 om2 op2) (qY : bt_qX sh th t' (t' p) b' hd hN ps la hd2 hN2 ps2 la2)
    (d1 : bt_cp dn dn2 (7 * p) (7 * c) 7) (d2 : bt_cp dy dy2 (7 * p) (7 * c) 7) (d3 : bt_cp dm dm2 (7 * p) (7 * c) 7) :
    bt_R st dr nm pa sz (upd th c 1) (upd dl c (dl p)) (upd sp c (nI a)) (upd tb c (nI a')) dn2 cc2 cv2 mn2 mc2 oc2 on2 om2 op2 (upd sY c (nI b)) (upd tY c (nI b')) dy2 dm2 vc2 ms2 me2 cr2 hd2 hN2 ps2 la2 (fun q => if q = c then a else s q) (fun q => if q = c then b else s' q) (fun q => if q = c then a' else t q) (fun q => if q = c then b' else t' q) := by
  obtain ⟨R1, a4, b4, sh1, hC⟩ := bt_spc R hp tp hX hY
  obtain ⟨R2, a4', b4', sh2, hD⟩ := bt_tbl R1 hp tp qX qY
  have hTp := (R2.2.2.2.2.2 p hp tp).1
  have pc : p ≠ c := fun e => by rw [e] at tp; exact tp tc
  obtain ⟨L, L1, L7, eL, z0, f⟩ := hTp
  have hT : bt_T st nm (upd dl c (dl p)) dn2 dy2 dm2 c := by
    refine ⟨L, L1, L7, by rw [pk_us]; exact eL, (d1.1 0 (by omega)).trans z0, fun i hi => ?_⟩
    rw [d1.1 i (by omega), d2.1 i (by omega), d3.1 i (by omega)]
    exact f i hi
  have R3 := bt_upT (p := c) R2 (dl2 := upd dl c (dl p)) (dn2 := dn2) (dy2 := dy2) (dm2 := dm2) (fun q hq => pk_un hq) (fun x hx => ⟨d1.2 x hx, d2.2 x hx, d3.2 x hx⟩) hT
  exact bt_add R3 hc tc a4 b4 a4' b4' sh1 sh2 hT hC hD
-- X's walk
theorem xf_124 {post : Int32 → SX → Prop} {p c a a' : Nat} (hp : p < 4) (hc : c < 4) (ne : p ≠ c)
    (h : ∀ dn2 : Nat → Int32, bt_cp dn dn2 (7 * p) (7 * c) 7 → post (nI c) (ls, tl, ec, kc, st, dr, nm, pa, ve, sz, it, sm, hl, upd th c 1, upd sp c (nI a), upd tb c (nI a'), upd dl c (dl p), dn2, cc, cv, mn, mc, oc, on, om, op, tr, el, cm)) : wX_fork_124 post (nI p) (nI c) (nI a) (nI a') ls tl ec kc st dr nm pa ve sz it sm hl th sp tb dl dn cc cv mn mc oc on om op tr el cm := by
  have ic := bt_ix4 hc
  have e := ic.2.2.2.2.2.1
  unfold wX_fork_124
  exact xx_copyDot hp hc ne (fun dn2 h1 => ⟨ic.2.2.2.2.1, nm_r (by rw [e]) ⟨ic.2.2.2.2.1, nm_r (by rw [e]) ⟨ic.2.2.2.2.1, nm_r (by rw [e, bt_n1]) (h dn2 h1)⟩⟩⟩)
theorem xf_108 {post : Int32 → SX → Prop} {p c a a' : Nat} {sh : Int32} (hp : p < 4) (hc : c < 4) (tp : th p ≠ 0) (ta : tb p = nI (t p)) (ht4 : t p < 4) (z1 : ¬ sh = 0 → a' = t p) (z0 : sh = 0 → a' < 4 ∧ ∀ q, q < 4 → th q ≠ 0 → t q ≠ a')
    (h : ∀ oc2 on2 om2 op2 : Nat → Int32, bt_qX sh th t (t p) a' oc on om op oc2 on2 om2 op2 → wX_fork_124 post (nI p) (nI c) (nI a) (nI a') ls tl ec kc st dr nm pa ve sz it sm hl th sp tb dl dn cc cv mn mc oc2 on2 om2 op2 tr el cm) : wX_fork_108 post (nI p) sh (nI c) (nI a) (nI a') ls tl ec kc st dr nm pa ve sz it sm hl th sp tb dl dn cc cv mn mc oc on om op tr el cm := by
  have ip := bt_ix4 hp
  refine br_c (fun z => ⟨ip.2.2.2.2.1, ?_⟩) (fun z => h _ _ _ _ (Or.inl ⟨z, z1 z, rfl, rfl, rfl, rfl⟩))
  rw [ip.2.2.2.2.2.1, ta]
  obtain ⟨a4, fr4⟩ := z0 z
  exact xx_copyTable ht4 a4 (fr4 p hp tp) (fun oc2 om2 op2 on2 h1 h2 h3 h4 => h oc2 on2 om2 op2 (Or.inr ⟨z, a4, fr4, h1, h2, h3, h4⟩))
theorem xf_78 {post : Int32 → SX → Prop} {p c a a' mode : Nat} {sh : Int32} (hp : p < 4) (hm : mode ≤ 2) (tp : th p ≠ 0) (sa : sp p = nI (s p)) (hs4 : s p < 4) (hB : ∀ i, bt_B (mc i)) (z1 : mode = 0 → a = s p) (z0 : mode ≠ 0 → a < 4 ∧ ∀ q, q < 4 → th q ≠ 0 → s q ≠ a)
    (h : ∀ cc2 cv2 mn2 mc2 : Nat → Int32, bt_pX mode th s (s p) a cc cv mn mc cc2 cv2 mn2 mc2 → wX_fork_108 post (nI p) sh (nI c) (nI a) (nI a') ls tl ec kc st dr nm pa ve sz it sm hl th sp tb dl dn cc2 cv2 mn2 mc2 oc on om op tr el cm) : wX_fork_78 post (nI p) (nI mode) sh (nI c) (nI a) (nI a') ls tl ec kc st dr nm pa ve sz it sm hl th sp tb dl dn cc cv mn mc oc on om op tr el cm := by
  have ip := bt_ix4 hp
  have m3 : mode = 0 ∨ mode = 1 ∨ mode = 2 := by omega
  rcases m3 with rfl | rfl | rfl
  · exact br_f (by decide) (br_f (by decide) (h _ _ _ _ (Or.inl ⟨rfl, z1 rfl, rfl, rfl, rfl, rfl⟩)))
  · obtain ⟨a4, fr4⟩ := z0 (by omega)
    refine br_t (by decide) ⟨ip.2.2.2.2.1, ?_⟩
    rw [ip.2.2.2.2.2.1, sa]
    exact xx_copySpace hs4 a4 (fr4 p hp tp) hB (fun cc2 cv2 mn2 mc2 h1 h2 h3 h4 => br_f (by decide) (h cc2 cv2 mn2 mc2 (Or.inr (Or.inl ⟨rfl, a4, fr4, h1, h2, h3, h4⟩))))
  · obtain ⟨a4, fr4⟩ := z0 (by omega)
    exact br_f (by decide) (br_t (by decide) (xx_clear a4 (fun cc2 h1 h2 => h cc2 cv mn mc (Or.inr (Or.inr ⟨rfl, a4, fr4, h1, h2, rfl, rfl, rfl⟩)))))
-- Y's walk
theorem yf_159 {post : Int32 → SY → Prop} {p c b b' : Nat} (hp : p < 4) (hc : c < 4) (ne : p ≠ c)
    (h : ∀ dy2 dm2 : Nat → Int32, bt_cp dy dy2 (7 * p) (7 * c) 7 → bt_cp dm dm2 (7 * p) (7 * c) 7 → post (nI c) (ls, es, tt, se, fr, st, nm, pa, ve, sz, sm, it, dr, upd th c 1, upd sY c (nI b), upd tY c (nI b'), upd dl c (dl p), dy2, dm2, vc, ms, me, cr, hd, hN, ps, la, ey, tn, tm, sn, sc, fn, fc)) : wY_fork_159 post (nI p) (nI c) (nI b) (nI b') ls es tt se fr st nm pa ve sz sm it dr th sY tY dl dy dm vc ms me cr hd hN ps la ey tn tm sn sc fn fc := by
  have ic := bt_ix4 hc
  have ip := bt_ix4 hp
  have e := ic.2.2.2.2.2.1
  have e' := ip.2.2.2.2.2.1
  exact ⟨ic.2.2.2.2.1, nm_r (by rw [e, bt_n1]) ⟨ic.2.2.2.2.1, nm_r (by rw [e]) ⟨ic.2.2.2.2.1, nm_r (by rw [e]) ⟨ip.2.2.2.2.1, ic.2.2.2.2.1, nm_r (by rw [e, e']) ⟨8, yy_f201 hp hc ne h 7 0 8 dy dm rfl (by omega) bt_cp_0 bt_cp_0⟩⟩⟩⟩⟩
theorem yf_143 {post : Int32 → SY → Prop} {p c b b' : Nat} {sh : Int32} (hp : p < 4) (tp : th p ≠ 0) (tb0 : tY p = nI (t' p)) (ht4 : t' p < 4) (z1 : ¬ sh = 0 → b' = t' p) (z0 : sh = 0 → b' < 4 ∧ ∀ q, q < 4 → th q ≠ 0 → t' q ≠ b')
    (h : ∀ hd2 hN2 ps2 la2 : Nat → Int32, bt_qX sh th t' (t' p) b' hd hN ps la hd2 hN2 ps2 la2 → wY_fork_159 post (nI p) (nI c) (nI b) (nI b') ls es tt se fr st nm pa ve sz sm it dr th sY tY dl dy dm vc ms me cr hd2 hN2 ps2 la2 ey tn tm sn sc fn fc) : wY_fork_143 post (nI p) sh (nI c) (nI b) (nI b') ls es tt se fr st nm pa ve sz sm it dr th sY tY dl dy dm vc ms me cr hd hN ps la ey tn tm sn sc fn fc := by
  have ip := bt_ix4 hp
  refine br_c (fun z => ⟨ip.2.2.2.2.1, ?_⟩) (fun z => h _ _ _ _ (Or.inl ⟨z, z1 z, rfl, rfl, rfl, rfl⟩))
  rw [ip.2.2.2.2.2.1, tb0]
  obtain ⟨b4, fr4⟩ := z0 z
  exact yy_copyTable ht4 b4 (fr4 p hp tp) (fun hd2 ps2 la2 hN2 h1 h2 h3 h4 => h hd2 hN2 ps2 la2 (Or.inr ⟨z, b4, fr4, h1, h2, h3, h4⟩))
theorem yf_117 {post : Int32 → SY → Prop} {p c b b' mode : Nat} {sh : Int32} (hp : p < 4) (hm : mode ≤ 2) (tp : th p ≠ 0) (sb : sY p = nI (s' p)) (hs4 : s' p < 4) (hB : ∀ i, bt_B (cr i)) (z1 : mode = 0 → b = s' p) (z0 : mode ≠ 0 → b < 4 ∧ ∀ q, q < 4 → th q ≠ 0 → s' q ≠ b)
    (h : ∀ vc2 ms2 me2 cr2 : Nat → Int32, bt_pY mode th s' (s' p) b vc ms me cr vc2 ms2 me2 cr2 → wY_fork_143 post (nI p) sh (nI c) (nI b) (nI b') ls es tt se fr st nm pa ve sz sm it dr th sY tY dl dy dm vc2 ms2 me2 cr2 hd hN ps la ey tn tm sn sc fn fc) : wY_fork_117 post (nI p) (nI mode) sh (nI c) (nI b) (nI b') ls es tt se fr st nm pa ve sz sm it dr th sY tY dl dy dm vc ms me cr hd hN ps la ey tn tm sn sc fn fc := by
  have ip := bt_ix4 hp
  have m3 : mode = 0 ∨ mode = 1 ∨ mode = 2 := by omega
  rcases m3 with rfl | rfl | rfl
  · exact br_t (by decide) (h _ _ _ _ (Or.inl ⟨rfl, z1 rfl, rfl, rfl, rfl, rfl⟩))
  · obtain ⟨b4, fr4⟩ := z0 (by omega)
    refine br_f (by decide) ⟨ip.2.2.2.2.1, ?_⟩
    rw [ip.2.2.2.2.2.1, sb]
    refine br_f (by decide) ?_
    unfold wY_fork_140
    exact yy_copySpace hs4 b4 (fr4 p hp tp) hB (fun vc2 ms2 me2 cr2 h1 h2 h3 h4 => h vc2 ms2 me2 cr2 (Or.inr ⟨by omega, b4, fr4, fun _ => h1.1 rfl, fun z => by omega, h2, h3, h4⟩))
  · obtain ⟨b4, fr4⟩ := z0 (by omega)
    refine br_f (by decide) ⟨ip.2.2.2.2.1, ?_⟩
    rw [ip.2.2.2.2.2.1, sb]
    refine br_t (by decide) ?_
    unfold wY_fork_140
    exact yy_copySpace hs4 b4 (fr4 p hp tp) hB (fun vc2 ms2 me2 cr2 h1 h2 h3 h4 => h vc2 ms2 me2 cr2 (Or.inr ⟨by omega, b4, fr4, fun z => by omega, fun _ => h1.2 (by decide), h2, h3, h4⟩))
theorem bt_r4 {b : Nat} (h : b < 4) : nI b + 1 - (nI b + 1) / 4 * 4 = nI ((b + 1) % 4) := by
  rw [nI_1]; exact pk_rem (d := 4) (by omega) (by decide) (by decide)
theorem yf_93 {post : Int32 → SY → Prop} {j : Nat} {x1 x2 x4 x5 : Int32} (hj : j < 4) (fj : ∀ q, q < 4 → th q ≠ 0 → t' q ≠ j) (hs : ∀ p, p < 4 → tY p = nI (t' p) ∧ t' p < 4)
    (h : ∀ b', b' < 4 → (∀ q, q < 4 → th q ≠ 0 → t' q ≠ b') → wY_fork_117 post x1 x2 0 x4 x5 (nI b') ls es tt se fr st nm pa ve sz sm it dr th sY tY dl dy dm vc ms me cr hd hN ps la ey tn tm sn sc fn fc) :
    ∀ (n b' : Nat), b' < 4 → (j + 4 - b') % 4 < n → wY_fork_93 post x1 x2 0 x4 x5 ls es tt se fr st nm pa ve sz sm it dr th sY tY dl dy dm vc ms me cr hd hN ps la ey tn tm sn sc fn fc n (nI b') := by
  intro n
  induction n with
  | zero => intro b' _ h; omega
  | succ n ih =>
    intro b' hb' hn
    refine br_t rfl (yy_tableU hb' hs (fun ⟨q, hq, tq, e⟩ => br_f (by decide) ⟨by decide, nm_r (bt_r4 hb') (ih _ (by omega) ?_)⟩) (fun z => br_t rfl (h b' hb' z)))
    have : b' ≠ j := fun y => fj q hq tq (e.trans y)
    omega
theorem yf_69 {post : Int32 → SY → Prop} {j mode : Nat} {x1 x3 x4 x6 : Int32} (m1 : 1 ≤ mode) (m2 : mode ≤ 2) (hj : j < 4) (fj : ∀ q, q < 4 → th q ≠ 0 → s' q ≠ j) (hs : ∀ p, p < 4 → sY p = nI (s' p) ∧ s' p < 4)
    (h : ∀ b, b < 4 → (∀ q, q < 4 → th q ≠ 0 → s' q ≠ b) → ∃ n, wY_fork_93 post x1 (nI mode) x3 x4 (nI b) ls es tt se fr st nm pa ve sz sm it dr th sY tY dl dy dm vc ms me cr hd hN ps la ey tn tm sn sc fn fc n x6) :
    ∀ (n b : Nat), b < 4 → (j + 4 - b) % 4 < n → wY_fork_69 post x1 (nI mode) x3 x4 x6 ls es tt se fr st nm pa ve sz sm it dr th sY tY dl dy dm vc ms me cr hd hN ps la ey tn tm sn sc fn fc n (nI b) := by
  intro n
  induction n with
  | zero => intro b' _ h; omega
  | succ n ih =>
    intro b hb hn
    refine br_f (nI_nle (by omega) (by omega)) (yy_spaceU hb hs (fun ⟨q, hq, tq, e⟩ => br_f (by decide) ⟨by decide, nm_r (bt_r4 hb) (ih _ (by omega) ?_)⟩) (fun z => br_t rfl (h b hb z)))
    have : b ≠ j := fun y => fj q hq tq (e.trans y)
    omega
end
theorem i_vc_fork {k : Nat} {u : SX} {v : SY} (I : i_Rel k u v) (hk : k + 6 ≤ 3072) (v1 : Int32) (v2 : Int32) (v3 : Int32) : wpX_fork (fun r u' => wpY_fork (fun r' v' => r' = r ∧ i_Rel (k + 6) u' v') v v1 v2 (lw_bz v3)) u v1 v2 (lw_bz v3) := by
  obtain ⟨ls, tl, ec, kc, es, tt, se, fr, st, dr, nm, pa, ve, sz, it, sm, hl, th, sp, tb, dl, dn, cc, cv, mn, mc, oc, on, om, op, tr, el, cm, sY, tY, dy, dm, vc, ms, me, cr, hd, hN, ps, la, ey, tn, tm, sn, sc, fn, fc, s, s', t, t', rfl, rfl, R⟩ := I
  unfold wpX_fork wpY_fork
  by_cases hn : ∃ q, q < 4 ∧ v1 = nI q ∧ th q ≠ 0
  · obtain ⟨p, hp, rfl, tp⟩ := hn
    have ip := bt_ix4 hp
    by_cases a0 : v2 < 0
    · exact xx_isP1 hp tp (br_f (by decide) (br_t a0 (yy_isP1 hp tp (br_f (by decide) (br_t a0 ⟨rfl, bt_mkR R⟩)))))
    by_cases a2 : v2 ≤ 2
    · obtain ⟨mode, hm, rfl⟩ := nI_of2 (M := 2) (n := 2) (by decide) a0 a2
      have J := R
      obtain ⟨RA, B1, B2, RS, RT, RP⟩ := J
      obtain ⟨sa, hs4, sb, hs4'⟩ := RS.1 p hp
      obtain ⟨ta, ht4, tb0, ht4'⟩ := RT.1 p hp
      refine xx_isP1 hp tp (br_f (by decide) (br_f a0 (br_t a2 (xx_fp ?_))))
      cases of : bt_f (fun p => th p = 0) 0 4 with
      | none =>
        refine br_t rfl (yy_isP1 hp tp (br_f (by decide) (br_f a0 (br_t a2 ⟨5, yy_f22 4 0 5 rfl (by omega) (fun c hc => ?_) (fun _ => br_t rfl ⟨rfl, bt_mkR R⟩)⟩))))
        rw [of] at hc; cases hc
      | some c =>
        obtain ⟨_, c4, tc, _⟩ := bt_f_s 4 0 of
        have hc : c < 4 := by omega
        have ic := bt_ix4 hc
        have pc : p ≠ c := fun e => by rw [e] at tp; exact tp tc
        have exS := bt_pig hc tc (fun q hq => (RS.1 q hq).2.1)
        have exT := bt_pig hc tc (fun q hq => (RT.1 q hq).2.1)
        obtain ⟨jS, jS4, jSf⟩ := bt_pig hc tc (fun q hq => (RS.1 q hq).2.2.2)
        obtain ⟨jT, jT4, jTf⟩ := bt_pig hc tc (fun q hq => (RT.1 q hq).2.2.2)
        -- Y's part, once X's is done
        have Yw : ∀ (a a' : Nat) (cc2 cv2 mn2 mc2 oc2 on2 om2 op2 dn2 : Nat → Int32), bt_pX mode th s (s p) a cc cv mn mc cc2 cv2 mn2 mc2 → bt_qX (lw_bz v3) th t (t p) a' oc on om op oc2 on2 om2 op2 → bt_cp dn dn2 (7 * p) (7 * c) 7 →
            wpY_fork (fun r' v' => r' = nI c ∧ i_Rel (k + 6) (ls, tl, ec, kc, st, dr, nm, pa, ve, sz, it, sm, hl, upd th c 1, upd sp c (nI a), upd tb c (nI a'), upd dl c (dl p), dn2, cc2, cv2, mn2, mc2, oc2, on2, om2, op2, tr, el, cm) v') (ls, es, tt, se, fr, st, nm, pa, ve, sz, sm, it, dr, th, sY, tY, dl, dy, dm, vc, ms, me, cr, hd, hN, ps, la, ey, tn, tm, sn, sc, fn, fc) (nI p) (nI mode) (lw_bz v3) := by
          intro a a' cc2 cv2 mn2 mc2 oc2 on2 om2 op2 dn2 hX qX d1
          have tail : ∀ b b' : Nat, (mode = 0 → b = s' p) → (mode ≠ 0 → b < 4 ∧ ∀ q, q < 4 → th q ≠ 0 → s' q ≠ b) → (¬ lw_bz v3 = 0 → b' = t' p) → (lw_bz v3 = 0 → b' < 4 ∧ ∀ q, q < 4 → th q ≠ 0 → t' q ≠ b') →
              wY_fork_117 (fun r' v' => r' = nI c ∧ i_Rel (k + 6) (ls, tl, ec, kc, st, dr, nm, pa, ve, sz, it, sm, hl, upd th c 1, upd sp c (nI a), upd tb c (nI a'), upd dl c (dl p), dn2, cc2, cv2, mn2, mc2, oc2, on2, om2, op2, tr, el, cm) v') (nI p) (nI mode) (lw_bz v3) (nI c) (nI b) (nI b') ls es tt se fr st nm pa ve sz sm it dr th sY tY dl dy dm vc ms me cr hd hN ps la ey tn tm sn sc fn fc := by
            intro b b' z1 z2 z3 z4
            refine yf_117 hp hm tp sb hs4' B2 z1 z2 (fun vc2 ms2 me2 cr2 hY => yf_143 hp tp tb0 ht4' z3 z4 (fun hd2 hN2 ps2 la2 qY => yf_159 hp hc pc (fun dy2 dm2 d2 d3 => ⟨rfl, ?_⟩)))
            exact bt_mkR (bt_fork R hp tp hc tc hX hY qX qY d1 d2 d3)
          unfold wpY_fork
          refine yy_isP1 hp tp (br_f (by decide) (br_f a0 (br_t a2 ⟨5, yy_f22 4 0 5 rfl (by omega) (fun c' hc' => ?_) (fun z => by rw [of] at z; cases z)⟩)))
          have ecc : c' = c := by rw [of] at hc'; cases hc'; rfl
          subst ecc
          refine br_f (fun z => by have := bt_inj (b := 4) (by omega) (by decide) z; omega) ⟨ip.2.2.2.2.1, nm_r (show _ = nI (s' p) from by rw [ip.2.2.2.2.2.1]; exact sb) ⟨ip.2.2.2.2.1, nm_r (show _ = nI (t' p) from by rw [ip.2.2.2.2.2.1]; exact tb0) ?_⟩⟩
          have tabs : ∀ b : Nat, (mode = 0 → b = s' p) → (mode ≠ 0 → b < 4 ∧ ∀ q, q < 4 → th q ≠ 0 → s' q ≠ b) →
              ∃ n, wY_fork_93 (fun r' v' => r' = nI c' ∧ i_Rel (k + 6) (ls, tl, ec, kc, st, dr, nm, pa, ve, sz, it, sm, hl, upd th c' 1, upd sp c' (nI a), upd tb c' (nI a'), upd dl c' (dl p), dn2, cc2, cv2, mn2, mc2, oc2, on2, om2, op2, tr, el, cm) v') (nI p) (nI mode) (lw_bz v3) (nI c') (nI b) ls es tt se fr st nm pa ve sz sm it dr th sY tY dl dy dm vc ms me cr hd hN ps la ey tn tm sn sc fn fc n (nI (t' p)) := by
            intro b z1 z2
            by_cases sh : lw_bz v3 = 0
            · have tl0 := tail b
              rw [sh] at tl0 ⊢
              exact ⟨4, yf_93 jT4 jTf (fun q hq => ⟨(RT.1 q hq).2.2.1, (RT.1 q hq).2.2.2⟩) (fun b' b4 fb => tl0 b' z1 z2 (fun z => absurd rfl z) (fun _ => ⟨b4, fb⟩)) 4 (t' p) ht4' (by omega)⟩
            · exact ⟨1, br_f sh (tail b (t' p) z1 z2 (fun _ => rfl) (fun z => absurd z sh))⟩
          by_cases m0 : mode = 0
          · have e0 : nI mode ≤ 0 := by rw [m0]; decide
            exact ⟨1, br_t e0 (tabs (s' p) (fun _ => rfl) (fun z => absurd m0 z))⟩
          · exact ⟨4, yf_69 (by omega) hm jS4 jSf (fun q hq => ⟨(RS.1 q hq).2.2.1, (RS.1 q hq).2.2.2⟩) (fun b b4 fb => tabs b (fun z => absurd z m0) (fun _ => ⟨b4, fb⟩)) 4 (s' p) hs4' (by omega)⟩
        unfold wpY_fork at Yw
        refine br_f ic.2.2.2.2.2.2 ?_
        -- X
        have Xt : ∀ a a' : Nat, (mode = 0 → a = s p) → (mode ≠ 0 → a < 4 ∧ ∀ q, q < 4 → th q ≠ 0 → s q ≠ a) → (¬ lw_bz v3 = 0 → a' = t p) → (lw_bz v3 = 0 → a' < 4 ∧ ∀ q, q < 4 → th q ≠ 0 → t q ≠ a') →
            wX_fork_78 (fun r u' => wpY_fork (fun r' v' => r' = r ∧ i_Rel (k + 6) u' v') (ls, es, tt, se, fr, st, nm, pa, ve, sz, sm, it, dr, th, sY, tY, dl, dy, dm, vc, ms, me, cr, hd, hN, ps, la, ey, tn, tm, sn, sc, fn, fc) (nI p) (nI mode) (lw_bz v3)) (nI p) (nI mode) (lw_bz v3) (nI c) (nI a) (nI a') ls tl ec kc st dr nm pa ve sz it sm hl th sp tb dl dn cc cv mn mc oc on om op tr el cm := by
          intro a a' z1 z2 z3 z4
          refine xf_78 hp hm tp sa hs4 B1 z1 z2 (fun cc2 cv2 mn2 mc2 hX => xf_108 hp hc tp ta ht4 z3 z4 (fun oc2 on2 om2 op2 qX => xf_124 hp hc pc (fun dn2 d1 => ?_)))
          unfold wpY_fork
          exact Yw a a' cc2 cv2 mn2 mc2 oc2 on2 om2 op2 dn2 hX qX d1
        have X55 : ∀ a : Nat, (mode = 0 → a = s p) → (mode ≠ 0 → a < 4 ∧ ∀ q, q < 4 → th q ≠ 0 → s q ≠ a) →
            wX_fork_55 (fun r u' => wpY_fork (fun r' v' => r' = r ∧ i_Rel (k + 6) u' v') (ls, es, tt, se, fr, st, nm, pa, ve, sz, sm, it, dr, th, sY, tY, dl, dy, dm, vc, ms, me, cr, hd, hN, ps, la, ey, tn, tm, sn, sc, fn, fc) (nI p) (nI mode) (lw_bz v3)) (nI p) (nI mode) (lw_bz v3) (nI c) (nI a) ls tl ec kc st dr nm pa ve sz it sm hl th sp tb dl dn cc cv mn mc oc on om op tr el cm := by
          intro a z1 z2
          by_cases sh : lw_bz v3 = 0
          · exact br_t sh (xx_unT (fun q hq => ⟨(RT.1 q hq).1, (RT.1 q hq).2.1⟩) exT (fun a' a4 fa => Xt a a' z1 z2 (fun z => absurd sh z) (fun _ => ⟨a4, fa⟩)))
          · refine br_f sh ⟨ip.2.2.2.2.1, ?_⟩
            rw [ip.2.2.2.2.2.1, ta]
            exact Xt a (t p) z1 z2 (fun _ => rfl) (fun z => absurd z sh)
        unfold wpY_fork at X55
        by_cases m0 : mode = 0
        · refine br_t (by rw [m0]; rfl) ⟨ip.2.2.2.2.1, ?_⟩
          have := X55 (s p) (fun _ => rfl) (fun z => absurd m0 z)
          rw [← sa] at this
          show wX_fork_55 _ (nI p) (nI mode) (lw_bz v3) (nI c) (sp (nI p).toNatClampNeg) _ _ _ _ _ _ _ _ _ _ _ _ _ _ _ _ _ _ _ _ _ _ _ _ _ _ _ _ _
          rw [ip.2.2.2.2.2.1]
          exact this
        · refine br_f (nI_ne0 (by omega) (by omega)) (xx_unS (fun q hq => ⟨(RS.1 q hq).1, (RS.1 q hq).2.1⟩) exS (fun a a4 fa => X55 a (fun z => absurd z m0) (fun _ => ⟨a4, fa⟩)))
    · exact xx_isP1 hp tp (br_f (by decide) (br_f a0 (br_f a2 (yy_isP1 hp tp (br_f (by decide) (br_f a0 (br_f a2 ⟨rfl, bt_mkR R⟩)))))))
  · exact xx_isP0 hn (br_t rfl (yy_isP0 hn (br_t rfl ⟨rfl, bt_mkR R⟩)))
end
section
/-- where the coming and the kept members of a cover come to lie -/
def bt_ly (f h : Nat → Int32) (base F E N K : Nat) (g V VC : Nat → Int32) (b : Int32) : Prop :=
  (∀ m, m < N → f (base + (F + m)) = g m ∧ h (base + (F + m)) = b) ∧ (∀ m, m < K → f (base + (E + m)) = V m ∧ h (base + (E + m)) = VC m)
def bt_QX (st th dl dn cc cv mn mc oc on : Nat → Int32) (s t : Nat → Nat) (i N K F E : Nat) (ov : Int32) (g V VC : Nat → Int32) (b : Int32) (st2 cc2 cv2 mn2 mc2 : Nat → Int32) : Prop :=
  cc2 = upd cc i (nI (K + N)) ∧ cv2 i = ov ∧ (∀ x, x ≠ i → cv2 x = cv x) ∧ bt_ly mn2 mc2 (5 * i) F E N K g V VC b ∧ (∀ x, (x < 5 * i ∨ 5 * i + 5 ≤ x) → mn2 x = mn x ∧ mc2 x = mc x) ∧ (∀ x, bt_B (mc2 x)) ∧
  bt_sw st (bt_H th dl dn cc2 cv2 mn2 oc on s t) st2
section
variable {ls tl ec kc : Int32} {st dr nm pa ve sz it sm hl th sp tb dl dn cc cv mn mc oc on om op tr el cm : Nat → Int32} {es tt se fr : Int32} {sY tY dy dm vc ms me cr hd hN ps la ey tn tm sn sc fn fc : Nat → Int32} {s s' t t' : Nat → Nat} {cc2 cv2 mn2 : Nat → Int32}
theorem bt_wf_C {p k : Nat} (hw : bt_wf th dl sp tb dn cc cv mn oc on s t) (hk : k < 6) (h1 : ∀ x, x ≠ 6 * s p + k → cc2 x = cc x ∧ cv2 x = cv x) (h2 : ∀ x, (x < 5 * (6 * s p + k) ∨ 5 * (6 * s p + k) + 5 ≤ x) → mn2 x = mn x)
    (hn : cc2 (6 * s p + k) = 0 ∨ ∃ c, 1 ≤ c ∧ c ≤ 5 ∧ cc2 (6 * s p + k) = nI c ∧ (∃ n, n < 48 ∧ cv2 (6 * s p + k) = nI n) ∧ ∀ m, m < c → ∃ n, n < 48 ∧ mn2 (5 * (6 * s p + k) + m) = nI n) : bt_wf th dl sp tb dn cc2 cv2 mn2 oc on s t := by
  intro q hq tq
  obtain ⟨a, b, c, d, e, f, g⟩ := hw q hq tq
  refine ⟨a, b, c, d, e, fun k' hk' => ?_, g⟩
  by_cases z : 6 * s q + k' = 6 * s p + k
  · rw [z]; exact hn
  · rw [(h1 _ z).1, (h1 _ z).2]
    rcases f k' hk' with y | ⟨c0, y1, y2, y3, y4, y5⟩
    · exact Or.inl y
    · refine Or.inr ⟨c0, y1, y2, y3, y4, fun m hm => ?_⟩
      rw [h2 _ (by rcases Nat.lt_or_gt_of_ne z with w | w <;> omega)]
      exact y5 m hm
theorem xx_put {post : SX → Prop} {i m : Nat} {y b : Int32} (hi : i < 24) (hm : m < 5) (hb : bt_B b) (h : post (ls, tl, ec, kc, st, dr, nm, pa, ve, sz, it, sm, hl, th, sp, tb, dl, dn, cc, cv, upd mn (5 * i + m) y, upd mc (5 * i + m) b, oc, on, om, op, tr, el, cm)) : wpX_putMember post (ls, tl, ec, kc, st, dr, nm, pa, ve, sz, it, sm, hl, th, sp, tb, dl, dn, cc, cv, mn, mc, oc, on, om, op, tr, el, cm) (nI i) (nI m) y b := by
  have ix := bt_ix120 (q := 5 * i + m) (by omega)
  have e5 : nI i * 5 + nI m = nI (5 * i + m) := by rw [bt_m5, nI_add]
  unfold wpX_putMember
  show vp_in (nI i * 5 + nI m) 120 ∧ _
  rw [e5, ix.2.2.2.2.2.1, bt_nB hb]
  exact ⟨ix.2.2.2.2.1, nm_e ⟨ix.2.2.2.2.1, nm_e h⟩⟩
theorem yy_put {post : SY → Prop} {x : Nat} {y b : Int32} (hx : x < 120) (hb : bt_B b) (h : post (ls, es, tt, se, fr, st, nm, pa, ve, sz, sm, it, dr, th, sY, tY, dl, dy, dm, vc, ms, upd me x y, upd cr x b, hd, hN, ps, la, ey, tn, tm, sn, sc, fn, fc)) : wpY_put post (ls, es, tt, se, fr, st, nm, pa, ve, sz, sm, it, dr, th, sY, tY, dl, dy, dm, vc, ms, me, cr, hd, hN, ps, la, ey, tn, tm, sn, sc, fn, fc) (nI x) y b := by
  have ix := bt_ix120 hx
  unfold wpY_put
  show vp_in (nI x) 120 ∧ _
  rw [ix.2.2.2.2.2.1, bt_nB hb]
  exact ⟨ix.2.2.2.2.1, nm_e ⟨ix.2.2.2.2.1, nm_e h⟩⟩
theorem xc_106 {post : Int32 → SX → Prop} {i F K N : Nat} {b : Int32} {g : Nat → Int32} (hi : i < 24) (hF : F + N ≤ 5) (hKN : K + N ≤ 5) (hb : bt_B b) (hg : ∀ m, m < N → cm m = g m)
    (hw : ∀ mn2 mc2 : Nat → Int32, (∀ m, m < N → mn2 (5 * i + (F + m)) = g m ∧ mc2 (5 * i + (F + m)) = b) → (∀ x, (x < 5 * i + F ∨ 5 * i + F + N ≤ x) → mn2 x = mn x ∧ mc2 x = mc x) → bt_wf th dl sp tb dn (upd cc i (nI (K + N))) cv mn2 oc on s t)
    (h : ∀ st2 hl2 mn2 mc2 : Nat → Int32, (∀ m, m < N → mn2 (5 * i + (F + m)) = g m ∧ mc2 (5 * i + (F + m)) = b) → (∀ x, (x < 5 * i + F ∨ 5 * i + F + N ≤ x) → mn2 x = mn x ∧ mc2 x = mc x) → (∀ x, bt_B (mc2 x)) →
      bt_sw st (bt_H th dl dn (upd cc i (nI (K + N))) cv mn2 oc on s t) st2 → post (nI (K + N)) (ls, tl, ec, nI N, st2, dr, nm, pa, ve, sz, it, sm, hl2, th, sp, tb, dl, dn, upd cc i (nI (K + N)), cv, mn2, mc2, oc, on, om, op, tr, el, cm)) :
    ∀ (e q n : Nat) (mn2 mc2 : Nat → Int32), q + e = N → e < n → (∀ m, m < q → mn2 (5 * i + (F + m)) = g m ∧ mc2 (5 * i + (F + m)) = b) → (∀ x, (x < 5 * i + F ∨ 5 * i + F + q ≤ x) → mn2 x = mn x ∧ mc2 x = mc x) → (∀ x, bt_B (mc2 x)) →
      wX_coverWithComing_106 post b (nI i) (nI K) (nI F) n (nI q) ls tl ec (nI N) st dr nm pa ve sz it sm hl th sp tb dl dn cc cv mn2 mc2 oc on om op tr el cm := by
  have ix := bt_ix24 hi
  intro e
  induction e with
  | zero =>
    intro q n mn2 mc2 hq hn h1 h2 h3
    obtain ⟨n, rfl⟩ : ∃ n', n = n' + 1 := ⟨n - 1, by omega⟩
    have : q = N := by omega
    subst this
    refine br_t (Int32.le_refl _) ⟨ix.2.2.2.2.1, ?_⟩
    rw [ix.2.2.2.2.2.1, nI_add]
    refine nm_e (xx_sw (hw mn2 mc2 h1 h2) (fun st2 hl2 sw => ⟨ix.2.2.2.2.1, ?_⟩))
    rw [pk_us]
    exact h st2 hl2 mn2 mc2 h1 h2 h3 sw
  | succ e ih =>
    intro q n mn2 mc2 hq hn h1 h2 h3
    obtain ⟨n, rfl⟩ : ∃ n', n = n' + 1 := ⟨n - 1, by omega⟩
    have iq := bt_ix5 (q := q) (by omega)
    refine br_f (nI_ge (by omega) (by omega)) ⟨iq.2.2.2.2.1, ?_⟩
    rw [nI_add, iq.2.2.2.2.2.1, hg q (by omega)]
    refine xx_put hi (by omega) hb (nm_r (nI_1 _) (ih (q + 1) n _ _ (by omega) (by omega) (fun m hm => ?_) (fun x hx => ?_) (bt_Bu h3 hb)))
    · by_cases w : m = q
      · rw [w, pk_us, pk_us]; exact ⟨rfl, rfl⟩
      · rw [pk_un (by omega), pk_un (by omega)]; exact h1 m (by omega)
    · rw [pk_un (by omega), pk_un (by omega)]; exact h2 x (by omega)
theorem xc_mv {post : SX → Prop} {i K N : Nat} {V VC : Nat → Int32} (hi : i < 24) (hKN : K + N ≤ 5) (N1 : 1 ≤ N)
    (h : ∀ mn2 mc2 : Nat → Int32, (∀ m, m < K → mn2 (5 * i + (N + m)) = V m ∧ mc2 (5 * i + (N + m)) = VC m) → (∀ x, (x < 5 * i ∨ 5 * i + 5 ≤ x) → mn2 x = mn x ∧ mc2 x = mc x) → (∀ x, bt_B (mc2 x)) → post (ls, tl, ec, nI N, st, dr, nm, pa, ve, sz, it, sm, hl, th, sp, tb, dl, dn, cc, cv, mn2, mc2, oc, on, om, op, tr, el, cm)) :
    ∀ (e n : Nat) (mn2 mc2 : Nat → Int32), e ≤ K → e < n → (∀ m, m < e → mn2 (5 * i + m) = V m ∧ mc2 (5 * i + m) = VC m) → (∀ m, e ≤ m → m < K → mn2 (5 * i + (N + m)) = V m ∧ mc2 (5 * i + (N + m)) = VC m) → (∀ x, (x < 5 * i ∨ 5 * i + 5 ≤ x) → mn2 x = mn x ∧ mc2 x = mc x) → (∀ x, bt_B (mc2 x)) →
      wX_moveMembersUp_4 post (nI i) n (nI e - 1) ls tl ec (nI N) st dr nm pa ve sz it sm hl th sp tb dl dn cc cv mn2 mc2 oc on om op tr el cm := by
  intro e
  induction e with
  | zero =>
    intro n mn2 mc2 he hn h1 h2 h3 h4
    obtain ⟨n, rfl⟩ : ∃ n', n = n' + 1 := ⟨n - 1, by omega⟩
    exact br_t (by decide) (h mn2 mc2 (fun m hm => h2 m (by omega) hm) h3 h4)
  | succ e ih =>
    intro n mn2 mc2 he hn h1 h2 h3 h4
    obtain ⟨n, rfl⟩ : ∃ n', n = n' + 1 := ⟨n - 1, by omega⟩
    have ie := bt_ix5 (q := e) (by omega)
    have iz := bt_ix120 (q := 5 * i + e) (by omega)
    have e5 : nI i * 5 + nI e = nI (5 * i + e) := by rw [bt_m5, nI_add]
    rw [nI_pred]
    refine br_f ie.1 (nm_r e5 ⟨iz.2.2.2.2.1, iz.2.2.2.2.1, ?_⟩)
    rw [iz.2.2.2.2.2.1, nI_add, Nat.add_comm e N]
    refine xx_put hi (by omega) (h4 _) (nm_r (bt_am1 _) (ih n _ _ (by omega) (by omega) (fun m hm => ?_) (fun m hm1 hm2 => ?_) (fun x hx => ?_) (bt_Bu h4 (h4 _))))
    · rw [pk_un (by omega), pk_un (by omega)]; exact h1 m (by omega)
    · by_cases w : m = e
      · rw [w, pk_us, pk_us]; exact h1 e (by omega)
      · rw [pk_un (by omega), pk_un (by omega)]; exact h2 m (by omega) hm2
    · rw [pk_un (by omega), pk_un (by omega)]; exact h3 x hx
/-- from the cover's own place on: X -/
theorem xc_77 {post : Int32 → SX → Prop} {i K N F E ord : Nat} {b : Int32} {g V VC : Nat → Int32} (hi : i < 24) (ho : ord ≤ 2) (hKN : K + N ≤ 5) (N1 : 1 ≤ N) (hb : bt_B b) (hB : ∀ x, bt_B (mc x)) (hg : ∀ m, m < N → cm m = g m)
    (hV : ∀ m, m < K → mn (5 * i + m) = V m ∧ mc (5 * i + m) = VC m) (o0 : ord = 0 → K = 0 ∧ F = 0) (o1 : ord = 1 → F = 0 ∧ E = N) (o2 : ord = 2 → F = K ∧ E = 0)
    (hw : ∀ mn2 mc2 : Nat → Int32, bt_ly mn2 mc2 (5 * i) F E N K g V VC b → (∀ x, (x < 5 * i ∨ 5 * i + 5 ≤ x) → mn2 x = mn x ∧ mc2 x = mc x) → bt_wf th dl sp tb dn (upd cc i (nI (K + N))) cv mn2 oc on s t)
    (h : ∀ st2 hl2 mn2 mc2 : Nat → Int32, bt_ly mn2 mc2 (5 * i) F E N K g V VC b → (∀ x, (x < 5 * i ∨ 5 * i + 5 ≤ x) → mn2 x = mn x ∧ mc2 x = mc x) → (∀ x, bt_B (mc2 x)) →
      bt_sw st (bt_H th dl dn (upd cc i (nI (K + N))) cv mn2 oc on s t) st2 → post (nI (K + N)) (ls, tl, ec, nI N, st2, dr, nm, pa, ve, sz, it, sm, hl2, th, sp, tb, dl, dn, upd cc i (nI (K + N)), cv, mn2, mc2, oc, on, om, op, tr, el, cm)) :
    wX_coverWithComing_77 post (nI ord) b (nI i) (nI K) ls tl ec (nI N) st dr nm pa ve sz it sm hl th sp tb dl dn cc cv mn mc oc on om op tr el cm := by
  have m3 : ord = 0 ∨ ord = 1 ∨ ord = 2 := by omega
  rcases m3 with rfl | rfl | rfl
  · obtain ⟨rfl, rfl⟩ := o0 rfl
    have ly : ∀ mn2 mc2 : Nat → Int32, (∀ m, m < N → mn2 (5 * i + (0 + m)) = g m ∧ mc2 (5 * i + (0 + m)) = b) → bt_ly mn2 mc2 (5 * i) 0 E N 0 g V VC b := fun mn2 mc2 a1 => ⟨a1, fun m hm => by omega⟩
    exact br_f (by decide) (br_f (by decide) ⟨N + 1, xc_106 hi (by omega) hKN hb hg (fun mn2 mc2 a1 a2 => hw mn2 mc2 (ly mn2 mc2 a1) (fun x hx => a2 x (by omega))) (fun st2 hl2 mn2 mc2 a1 a2 a3 sw => h st2 hl2 mn2 mc2 (ly mn2 mc2 a1) (fun x hx => a2 x (by omega)) a3 sw) N 0 (N + 1) mn mc (by omega) (by omega) (fun m hm => by omega) (fun _ _ => ⟨rfl, rfl⟩) hB⟩)
  · obtain ⟨rfl, rfl⟩ := o1 rfl
    refine br_t (by decide) ?_
    unfold wpX_moveMembersUp
    refine nm_e ⟨K + 1, xc_mv (V := V) (VC := VC) hi hKN N1 (fun mn1 mc1 b1 b2 b3 => ?_) K (K + 1) mn mc (Nat.le_refl _) (by omega) hV (fun m h1 h2 => by omega) (fun _ _ => ⟨rfl, rfl⟩) hB⟩
    have ly : ∀ mn2 mc2 : Nat → Int32, (∀ m, m < E → mn2 (5 * i + (0 + m)) = g m ∧ mc2 (5 * i + (0 + m)) = b) → (∀ x, (x < 5 * i + 0 ∨ 5 * i + 0 + E ≤ x) → mn2 x = mn1 x ∧ mc2 x = mc1 x) → bt_ly mn2 mc2 (5 * i) 0 E E K g V VC b := by
      intro mn2 mc2 a1 a2
      refine ⟨a1, fun m hm => ?_⟩
      rw [(a2 (5 * i + (E + m)) (by omega)).1, (a2 (5 * i + (E + m)) (by omega)).2]
      exact b1 m hm
    have ot : ∀ mn2 mc2 : Nat → Int32, (∀ x, (x < 5 * i + 0 ∨ 5 * i + 0 + E ≤ x) → mn2 x = mn1 x ∧ mc2 x = mc1 x) → ∀ x, (x < 5 * i ∨ 5 * i + 5 ≤ x) → mn2 x = mn x ∧ mc2 x = mc x := by
      intro mn2 mc2 a2 x hx
      rw [(a2 x (by omega)).1, (a2 x (by omega)).2]
      exact b2 x hx
    exact br_f (by decide) ⟨E + 1, xc_106 hi (by omega) hKN hb hg (fun mn2 mc2 a1 a2 => hw mn2 mc2 (ly mn2 mc2 a1 a2) (ot mn2 mc2 a2)) (fun st2 hl2 mn2 mc2 a1 a2 a3 sw => h st2 hl2 mn2 mc2 (ly mn2 mc2 a1 a2) (ot mn2 mc2 a2) a3 sw) E 0 (E + 1) mn1 mc1 (by omega) (by omega) (fun m hm => by omega) (fun _ _ => ⟨rfl, rfl⟩) b3⟩
  · obtain ⟨rfl, rfl⟩ := o2 rfl
    have ly : ∀ mn2 mc2 : Nat → Int32, (∀ m, m < N → mn2 (5 * i + (F + m)) = g m ∧ mc2 (5 * i + (F + m)) = b) → (∀ x, (x < 5 * i + F ∨ 5 * i + F + N ≤ x) → mn2 x = mn x ∧ mc2 x = mc x) → bt_ly mn2 mc2 (5 * i) F 0 N F g V VC b := by
      intro mn2 mc2 a1 a2
      refine ⟨a1, fun m hm => ?_⟩
      rw [Nat.zero_add, (a2 (5 * i + m) (by omega)).1, (a2 (5 * i + m) (by omega)).2]
      exact hV m hm
    exact br_f (by decide) (br_t (by decide) ⟨N + 1, xc_106 hi (by omega) hKN hb hg (fun mn2 mc2 a1 a2 => hw mn2 mc2 (ly mn2 mc2 a1 a2) (fun x hx => a2 x (by omega))) (fun st2 hl2 mn2 mc2 a1 a2 a3 sw => h st2 hl2 mn2 mc2 (ly mn2 mc2 a1 a2) (fun x hx => a2 x (by omega)) a3 sw) N 0 (N + 1) mn mc (by omega) (by omega) (fun m hm => by omega) (fun _ _ => ⟨rfl, rfl⟩) hB⟩)
-- Y
theorem yc_188 {post : Int32 → SY → Prop} {j A K : Nat} {nn : Int32} (hj : j < 24) (hAK : A + K ≤ 5) (hS : ∀ m, m < K → bt_B (sc m))
    (h : ∀ me2 cr2 : Nat → Int32, (∀ m, m < K → me2 (5 * j + (A + m)) = sn m ∧ cr2 (5 * j + (A + m)) = sc m) → (∀ x, (x < 5 * j + A ∨ 5 * j + A + K ≤ x) → me2 x = me x ∧ cr2 x = cr x) → (∀ x, bt_B (cr2 x)) → wY_cover_236 post nn ls es tt (nI K) fr st nm pa ve sz sm it dr th sY tY dl dy dm vc ms me2 cr2 hd hN ps la ey tn tm sn sc fn fc) :
    ∀ (e q n : Nat) (me2 cr2 : Nat → Int32), q + e = K → e < n → (∀ m, m < q → me2 (5 * j + (A + m)) = sn m ∧ cr2 (5 * j + (A + m)) = sc m) → (∀ x, (x < 5 * j + A ∨ 5 * j + A + q ≤ x) → me2 x = me x ∧ cr2 x = cr x) → (∀ x, bt_B (cr2 x)) →
      wY_cover_188 post 1 nn (nI j) n (nI (A + q)) (nI q) ls es tt (nI K) fr st nm pa ve sz sm it dr th sY tY dl dy dm vc ms me2 cr2 hd hN ps la ey tn tm sn sc fn fc := by
  intro e
  induction e with
  | zero =>
    intro q n me2 cr2 hq hn h1 h2 h3
    obtain ⟨n, rfl⟩ : ∃ n', n = n' + 1 := ⟨n - 1, by omega⟩
    have : q = K := by omega
    subst this
    exact br_t (Int32.le_refl _) (h me2 cr2 h1 h2 h3)
  | succ e ih =>
    intro q n me2 cr2 hq hn h1 h2 h3
    obtain ⟨n, rfl⟩ : ∃ n', n = n' + 1 := ⟨n - 1, by omega⟩
    have iq := bt_ix5 (q := q) (by omega)
    have e5 : 5 * nI j + nI (A + q) = nI (5 * j + (A + q)) := by rw [bt_5m, nI_add]
    refine br_f (nI_ge (by omega) (by omega)) (br_t rfl (nm_r (nI_1 _) ⟨iq.2.2.2.2.1, iq.2.2.2.2.1, ?_⟩))
    rw [e5, iq.2.2.2.2.2.1]
    refine yy_put (by omega) (hS q (by omega)) (nm_r (nI_1 _) (ih (q + 1) n _ _ (by omega) (by omega) (fun m hm => ?_) (fun x hx => ?_) (bt_Bu h3 (hS q (by omega)))))
    · by_cases w : m = q
      · rw [w, pk_us, pk_us]; exact ⟨rfl, rfl⟩
      · rw [pk_un (by omega), pk_un (by omega)]; exact h1 m (by omega)
    · rw [pk_un (by omega), pk_un (by omega)]; exact h2 x (by omega)
theorem yc_147 {post : Int32 → SY → Prop} {j A N : Nat} {nn x3 b : Int32} {g : Nat → Int32} (hj : j < 24) (hAN : A + N ≤ 5) (hb : bt_B b) (hg : ∀ m, m < N → fn m = g m)
    (h : ∀ me2 cr2 : Nat → Int32, (∀ m, m < N → me2 (5 * j + (A + m)) = g m ∧ cr2 (5 * j + (A + m)) = b) → (∀ x, (x < 5 * j + A ∨ 5 * j + A + N ≤ x) → me2 x = me x ∧ cr2 x = cr x) → (∀ x, bt_B (cr2 x)) → ∃ n, wY_cover_188 post x3 nn (nI j) n (nI (A + N)) 0 ls es tt se (nI N) st nm pa ve sz sm it dr th sY tY dl dy dm vc ms me2 cr2 hd hN ps la ey tn tm sn sc fn fc) :
    ∀ (e q n : Nat) (me2 cr2 : Nat → Int32), q + e = N → e < n → (∀ m, m < q → me2 (5 * j + (A + m)) = g m ∧ cr2 (5 * j + (A + m)) = b) → (∀ x, (x < 5 * j + A ∨ 5 * j + A + q ≤ x) → me2 x = me x ∧ cr2 x = cr x) → (∀ x, bt_B (cr2 x)) →
      wY_cover_147 post x3 b nn (nI j) n (nI (A + q)) (nI q) ls es tt se (nI N) st nm pa ve sz sm it dr th sY tY dl dy dm vc ms me2 cr2 hd hN ps la ey tn tm sn sc fn fc := by
  intro e
  induction e with
  | zero =>
    intro q n me2 cr2 hq hn h1 h2 h3
    obtain ⟨n, rfl⟩ : ∃ n', n = n' + 1 := ⟨n - 1, by omega⟩
    have : q = N := by omega
    subst this
    exact br_t (Int32.le_refl _) (h me2 cr2 h1 h2 h3)
  | succ e ih =>
    intro q n me2 cr2 hq hn h1 h2 h3
    obtain ⟨n, rfl⟩ : ∃ n', n = n' + 1 := ⟨n - 1, by omega⟩
    have iq := bt_ix11 (q := q) (by omega)
    have e5 : 5 * nI j + nI (A + q) = nI (5 * j + (A + q)) := by rw [bt_5m, nI_add]
    refine br_f (nI_ge (by omega) (by omega)) (nm_r (nI_1 _) ⟨iq.2.2.2.2.1, ?_⟩)
    rw [e5, iq.2.2.2.2.2.1, hg q (by omega)]
    refine yy_put (by omega) hb (nm_r (nI_1 _) (ih (q + 1) n _ _ (by omega) (by omega) (fun m hm => ?_) (fun x hx => ?_) (bt_Bu h3 hb)))
    · by_cases w : m = q
      · rw [w, pk_us, pk_us]; exact ⟨rfl, rfl⟩
      · rw [pk_un (by omega), pk_un (by omega)]; exact h1 m (by omega)
    · rw [pk_un (by omega), pk_un (by omega)]; exact h2 x (by omega)
theorem yc_96 {post : Int32 → SY → Prop} {j K : Nat} {nn b : Int32} (hj : j < 24) (hK : K ≤ 5) (hS : ∀ m, m < K → bt_B (sc m))
    (h : ∀ me2 cr2 : Nat → Int32, (∀ m, m < K → me2 (5 * j + m) = sn m ∧ cr2 (5 * j + m) = sc m) → (∀ x, (x < 5 * j ∨ 5 * j + K ≤ x) → me2 x = me x ∧ cr2 x = cr x) → (∀ x, bt_B (cr2 x)) → ∃ n, wY_cover_147 post 2 b nn (nI j) n (nI K) 0 ls es tt (nI K) fr st nm pa ve sz sm it dr th sY tY dl dy dm vc ms me2 cr2 hd hN ps la ey tn tm sn sc fn fc) :
    ∀ (e q n : Nat) (me2 cr2 : Nat → Int32), q + e = K → e < n → (∀ m, m < q → me2 (5 * j + m) = sn m ∧ cr2 (5 * j + m) = sc m) → (∀ x, (x < 5 * j ∨ 5 * j + q ≤ x) → me2 x = me x ∧ cr2 x = cr x) → (∀ x, bt_B (cr2 x)) →
      wY_cover_96 post 2 b nn (nI j) n (nI q) (nI q) ls es tt (nI K) fr st nm pa ve sz sm it dr th sY tY dl dy dm vc ms me2 cr2 hd hN ps la ey tn tm sn sc fn fc := by
  intro e
  induction e with
  | zero =>
    intro q n me2 cr2 hq hn h1 h2 h3
    obtain ⟨n, rfl⟩ : ∃ n', n = n' + 1 := ⟨n - 1, by omega⟩
    have : q = K := by omega
    subst this
    exact br_t (Int32.le_refl _) (h me2 cr2 h1 h2 h3)
  | succ e ih =>
    intro q n me2 cr2 hq hn h1 h2 h3
    obtain ⟨n, rfl⟩ : ∃ n', n = n' + 1 := ⟨n - 1, by omega⟩
    have iq := bt_ix5 (q := q) (by omega)
    have e5 : 5 * nI j + nI q = nI (5 * j + q) := by rw [bt_5m, nI_add]
    refine br_f (nI_ge (by omega) (by omega)) (br_t rfl (nm_r (nI_1 _) ⟨iq.2.2.2.2.1, iq.2.2.2.2.1, ?_⟩))
    rw [e5, iq.2.2.2.2.2.1]
    refine yy_put (by omega) (hS q (by omega)) (nm_r (nI_1 _) (ih (q + 1) n _ _ (by omega) (by omega) (fun m hm => ?_) (fun x hx => ?_) (bt_Bu h3 (hS q (by omega)))))
    · by_cases w : m = q
      · rw [w, pk_us, pk_us]; exact ⟨rfl, rfl⟩
      · rw [pk_un (by omega), pk_un (by omega)]; exact h1 m (by omega)
    · rw [pk_un (by omega), pk_un (by omega)]; exact h2 x (by omega)
/-- from the cover's own place on: Y; c members are seen, K of them kept -/
theorem yc_59 {post : Int32 → SY → Prop} {j K N F E ord c : Nat} {b over : Int32} {g V VC : Nat → Int32} (hj : j < 24) (ho : ord ≤ 2) (hKN : K + N ≤ 5) (hb : bt_B b) (hB : ∀ x, bt_B (cr x)) (hg : ∀ m, m < N → fn m = g m) (c1 : 1 ≤ c) (c5 : c ≤ 5)
    (hV : ∀ m, m < K → sn m = V m ∧ sc m = VC m) (hVB : ∀ m, m < K → bt_B (VC m)) (o0 : ord = 0 → K = 0 ∧ F = 0) (o1 : ord = 1 → F = 0 ∧ E = N ∧ K = c) (o2 : ord = 2 → F = K ∧ E = 0 ∧ K = c)
    (h : ∀ me2 cr2 : Nat → Int32, bt_ly me2 cr2 (5 * j) F E N K g V VC b → (∀ x, (x < 5 * j ∨ 5 * j + 5 ≤ x) → me2 x = me x ∧ cr2 x = cr x) → (∀ x, bt_B (cr2 x)) → wY_cover_236 post (nI (K + N)) ls es tt (nI c) (nI N) st nm pa ve sz sm it dr th sY tY dl dy dm (upd vc j over) (upd ms j (nI (K + N))) me2 cr2 hd hN ps la ey tn tm sn sc fn fc) :
    wY_cover_59 post over (nI ord) b (nI (K + N)) (nI j) ls es tt (nI c) (nI N) st nm pa ve sz sm it dr th sY tY dl dy dm vc ms me cr hd hN ps la ey tn tm sn sc fn fc := by
  have ix := bt_ix24 hj
  have n5 : ¬ (5 : Int32) < nI (K + N) := Int32.not_lt.mpr (nI_le (b := 5) (by omega) (by decide))
  refine br_f n5 (br_t ix.2.1 ⟨ix.2.2.2.2.1, ?_⟩)
  rw [ix.2.2.2.2.2.1]
  refine nm_e ⟨ix.2.2.2.2.1, nm_e ?_⟩
  have c0 : ¬ nI c ≤ 0 := nI_nle (by omega) (by omega)
  have m3 : ord = 0 ∨ ord = 1 ∨ ord = 2 := by omega
  rcases m3 with rfl | rfl | rfl
  · obtain ⟨rfl, rfl⟩ := o0 rfl
    exact ⟨1, br_f c0 (br_f (by decide) ⟨N + 1, yc_147 (A := 0) hj (by omega) hb hg (fun me2 cr2 a1 a2 a3 => ⟨1, br_f c0 (br_f (by decide) (h me2 cr2 ⟨a1, fun m hm => by omega⟩ (fun x hx => a2 x (by omega)) a3))⟩) N 0 (N + 1) me cr (by omega) (by omega) (fun m hm => by omega) (fun _ _ => ⟨rfl, rfl⟩) hB⟩)⟩
  · obtain ⟨rfl, rfl, rfl⟩ := o1 rfl
    refine ⟨1, br_f c0 (br_f (by decide) ⟨E + 1, yc_147 (A := 0) hj (by omega) hb hg (fun me2 cr2 a1 a2 a3 => ⟨K + 1, ?_⟩) E 0 (E + 1) me cr (by omega) (by omega) (fun m hm => by omega) (fun _ _ => ⟨rfl, rfl⟩) hB⟩)⟩
    have := yc_188 (post := post) (nn := nI (K + E)) (es := es) (tt := tt) (fr := nI E) (sY := sY) (tY := tY) (dy := dy) (dm := dm) (vc := upd vc j over) (ms := upd ms j (nI (K + E))) (me := me2) (cr := cr2) (hd := hd) (hN := hN) (ps := ps) (la := la) (ey := ey) (tn := tn) (tm := tm) (sn := sn) (sc := sc) (fn := fn) (fc := fc) (ls := ls) (st := st) (nm := nm) (pa := pa) (ve := ve) (sz := sz) (sm := sm) (it := it) (dr := dr) (th := th) (dl := dl) (j := j) (A := 0 + E) (K := K) hj (by omega) (fun m hm => by rw [(hV m hm).2]; exact hVB m hm) (fun me3 cr3 d1 d2 d3 => h me3 cr3 ⟨fun m hm => ?_, fun m hm => ?_⟩ (fun x hx => ?_) d3) K 0 (K + 1) me2 cr2 (by omega) (by omega) (fun m hm => by omega) (fun _ _ => ⟨rfl, rfl⟩) a3
    · exact this
    · rw [(d2 (5 * j + (0 + m)) (by omega)).1, (d2 (5 * j + (0 + m)) (by omega)).2]; exact a1 m hm
    · have e : 5 * j + (E + m) = 5 * j + (0 + E + m) := by omega
      rw [e, (d1 m hm).1, (d1 m hm).2]; exact hV m hm
    · rw [(d2 x (by omega)).1, (d2 x (by omega)).2]; exact a2 x (by omega)
  · obtain ⟨rfl, rfl, rfl⟩ := o2 rfl
    refine ⟨F + 1, ?_⟩
    have := yc_96 (post := post) (nn := nI (F + N)) (b := b) (es := es) (tt := tt) (fr := nI N) (sY := sY) (tY := tY) (dy := dy) (dm := dm) (vc := upd vc j over) (ms := upd ms j (nI (F + N))) (me := me) (cr := cr) (hd := hd) (hN := hN) (ps := ps) (la := la) (ey := ey) (tn := tn) (tm := tm) (sn := sn) (sc := sc) (fn := fn) (fc := fc) (ls := ls) (st := st) (nm := nm) (pa := pa) (ve := ve) (sz := sz) (sm := sm) (it := it) (dr := dr) (th := th) (dl := dl) (j := j) (K := F) hj (by omega) (fun m hm => by rw [(hV m hm).2]; exact hVB m hm)
      (fun me2 cr2 a1 a2 a3 => ⟨N + 1, yc_147 (A := F) hj (by omega) hb hg (fun me3 cr3 d1 d2 d3 => ⟨1, br_f c0 (br_f (by decide) (h me3 cr3 ⟨d1, fun m hm => ?_⟩ (fun x hx => ?_) d3))⟩) N 0 (N + 1) me2 cr2 (by omega) (by omega) (fun m hm => by omega) (fun _ _ => ⟨rfl, rfl⟩) a3⟩) F 0 (F + 1) me cr (by omega) (by omega) (fun m hm => by omega) (fun _ _ => ⟨rfl, rfl⟩) hB
    · exact this
    · have e : 5 * j + (0 + m) = 5 * j + m := by omega
      rw [e, (d2 (5 * j + m) (by omega)).1, (d2 (5 * j + m) (by omega)).2, (a1 m hm).1, (a1 m hm).2]; exact hV m hm
    · rw [(d2 x (by omega)).1, (d2 x (by omega)).2]; exact a2 x (by omega)
end
end
section
theorem bt_e1 {m : Nat} (h : m < 2 ^ 31) : nI m = 1 ↔ m = 1 := nI_eq (b := 1) h (by decide)
theorem bt_le5 {m : Nat} (h : m < 2 ^ 31) : nI m ≤ 5 ↔ m ≤ 5 := nI_leI (b := 5) h (by decide)
section
variable {ls tl ec kc : Int32} {st dr nm pa ve sz it sm hl th sp tb dl dn cc cv mn mc oc on om op tr el cm : Nat → Int32} {es tt se fr : Int32} {sY tY dy dm vc ms me cr hd hN ps la ey tn tm sn sc fn fc : Nat → Int32} {s s' t t' : Nat → Nat}
def bt_vc (mc : Nat → Int32) (a : Nat) : Option Nat → Nat → Int32
  | none, _ => 0
  | some k, m => mc (5 * (6 * a + k) + m)
set_option maxHeartbeats 1000000 in
theorem cov_R {p ov N ord : Nat} {b : Int32} {g : Nat → Int32} (R : bt_R st dr nm pa sz th dl sp tb dn cc cv mn mc oc on om op sY tY dy dm vc ms me cr hd hN ps la s s' t t') (hp : p < 4) (tp : th p ≠ 0) (Nov : bt_N st (nI ov)) (ho : ord ≤ 2) (N1 : 1 ≤ N) (N5 : N ≤ 5) (hgN : ∀ m, m < N → bt_N st (g m)) (hb : bt_B b) (hg : ∀ m, m < N → cm m = g m) :
    ((∀ post : Int32 → SX → Prop, post (-6) (ls, tl, ec, nI N, st, dr, nm, pa, ve, sz, it, sm, hl, th, sp, tb, dl, dn, cc, cv, mn, mc, oc, on, om, op, tr, el, cm) → wpX_coverWithComing post (ls, tl, ec, nI N, st, dr, nm, pa, ve, sz, it, sm, hl, th, sp, tb, dl, dn, cc, cv, mn, mc, oc, on, om, op, tr, el, cm) (nI (s p)) (nI ov) (nI ord) b) ∧
     (∀ (post : Int32 → SY → Prop) (es tt se : Int32) (ey tn tm sn sc fn fc : Nat → Int32), (∀ m, m < N → fn m = g m) → (∀ (se2 : Int32) (sn2 sc2 : Nat → Int32), post (-6) (ls, es, tt, se2, nI N, st, nm, pa, ve, sz, sm, it, dr, th, sY, tY, dl, dy, dm, vc, ms, me, cr, hd, hN, ps, la, ey, tn, tm, sn2, sc2, fn, fc)) → wpY_cover post (ls, es, tt, se, nI N, st, nm, pa, ve, sz, sm, it, dr, th, sY, tY, dl, dy, dm, vc, ms, me, cr, hd, hN, ps, la, ey, tn, tm, sn, sc, fn, fc) (nI p) (nI ov) (nI ord) b)) ∨
    ∃ (r : Int32) (Q : (Nat → Int32) → (Nat → Int32) → (Nat → Int32) → (Nat → Int32) → (Nat → Int32) → Prop),
      (∀ post : Int32 → SX → Prop, (∀ st2 hl2 cc2 cv2 mn2 mc2 : Nat → Int32, Q st2 cc2 cv2 mn2 mc2 → post r (ls, tl, ec, nI N, st2, dr, nm, pa, ve, sz, it, sm, hl2, th, sp, tb, dl, dn, cc2, cv2, mn2, mc2, oc, on, om, op, tr, el, cm)) → wpX_coverWithComing post (ls, tl, ec, nI N, st, dr, nm, pa, ve, sz, it, sm, hl, th, sp, tb, dl, dn, cc, cv, mn, mc, oc, on, om, op, tr, el, cm) (nI (s p)) (nI ov) (nI ord) b) ∧
      (∀ st2 cc2 cv2 mn2 mc2 : Nat → Int32, Q st2 cc2 cv2 mn2 mc2 → ∀ (post : Int32 → SY → Prop) (es tt se : Int32) (ey tn tm sn sc fn fc : Nat → Int32), (∀ m, m < N → fn m = g m) →
        (∀ (se2 : Int32) (sn2 sc2 vc2 ms2 me2 cr2 : Nat → Int32), bt_R st2 dr nm pa sz th dl sp tb dn cc2 cv2 mn2 mc2 oc on om op sY tY dy dm vc2 ms2 me2 cr2 hd hN ps la s s' t t' → post r (ls, es, tt, se2, nI N, st2, nm, pa, ve, sz, sm, it, dr, th, sY, tY, dl, dy, dm, vc2, ms2, me2, cr2, hd, hN, ps, la, ey, tn, tm, sn2, sc2, fn, fc)) → wpY_cover post (ls, es, tt, se, nI N, st, nm, pa, ve, sz, sm, it, dr, th, sY, tY, dl, dy, dm, vc, ms, me, cr, hd, hN, ps, la, ey, tn, tm, sn, sc, fn, fc) (nI p) (nI ov) (nI ord) b) := by
  have J := R
  obtain ⟨RA, B1, B2, RS, RT, RP⟩ := J
  obtain ⟨hT, hC, hD⟩ := RP p hp tp
  obtain ⟨sa, ha, sb, hb4⟩ := RS.1 p hp
  have ip := bt_ix4 hp
  obtain ⟨c, c1, c5, hv, hNs, hv0, hS⟩ := bt_view hC Nov
  have hof : ∀ k', bt_cf cc cv (s p) (nI ov) = some k' → k' < 6 := fun k' hk' => (hS k' hk').1
  -- how many are kept
  have hK : ∃ K, (ord = 0 → K = 0) ∧ (¬ ord = 0 → K = c) := by
    by_cases z : ord = 0
    · exact ⟨0, fun _ => rfl, fun y => absurd z y⟩
    · exact ⟨c, fun y => absurd y z, fun _ => rfl⟩
  obtain ⟨K, K0, Kc⟩ := hK
  have Kle : K ≤ c := by
    by_cases z : ord = 0
    · have := K0 z
      omega
    · have := Kc z
      omega
  -- X up to the place
  have X22 : ∀ post : Int32 → SX → Prop, wX_coverWithComing_22 post (nI (s p)) (nI ov) (nI ord) b (bt_of (6 * s p) (bt_cf cc cv (s p) (nI ov))) (nI K) ls tl ec (nI N) st dr nm pa ve sz it sm hl th sp tb dl dn cc cv mn mc oc on om op tr el cm → wpX_coverWithComing post (ls, tl, ec, nI N, st, dr, nm, pa, ve, sz, it, sm, hl, th, sp, tb, dl, dn, cc, cv, mn, mc, oc, on, om, op, tr, el, cm) (nI (s p)) (nI ov) (nI ord) b := by
    intro post h
    unfold wpX_coverWithComing
    refine xx_coverOf ha (bt_Cc hC) (ek_if (bt_e0 (by omega)) (fun z => ?_) (fun z => xx_seenCount ha hof ?_))
    · have := K0 z
      subst this
      exact h
    · rw [hv, ← Kc z]; exact h
  -- Y up to the place
  have Y26 : ∀ (post : Int32 → SY → Prop) (es tt se : Int32) (ey tn tm sn sc fn fc : Nat → Int32),
      (∀ sn2 sc2 : Nat → Int32, (∀ m, m < c → sn2 m = bt_vg mn (s p) (nI ov) (bt_cf cc cv (s p) (nI ov)) m ∧ sc2 m = bt_vc mc (s p) (bt_cf cc cv (s p) (nI ov)) m) →
        ((0 ≤ bt_of (6 * s' p) (bt_cf cc cv (s p) (nI ov)) → wY_cover_59 post (nI ov) (nI ord) b (nI (K + N)) (bt_of (6 * s' p) (bt_cf cc cv (s p) (nI ov))) ls es tt (nI c) (nI N) st nm pa ve sz sm it dr th sY tY dl dy dm vc ms me cr hd hN ps la ey tn tm sn2 sc2 fn fc) ∧
         (¬ 0 ≤ bt_of (6 * s' p) (bt_cf cc cv (s p) (nI ov)) → wY_cover_59 post (nI ov) (nI ord) b (nI (K + N)) (bt_of (6 * s' p) (bt_uf cc (s p))) ls es tt (nI c) (nI N) st nm pa ve sz sm it dr th sY tY dl dy dm vc ms me cr hd hN ps la ey tn tm sn2 sc2 fn fc))) →
      wpY_cover post (ls, es, tt, se, nI N, st, nm, pa, ve, sz, sm, it, dr, th, sY, tY, dl, dy, dm, vc, ms, me, cr, hd, hN, ps, la, ey, tn, tm, sn, sc, fn, fc) (nI p) (nI ov) (nI ord) b := by
    intro post es tt se ey tn tm sn sc fn fc h
    unfold wpY_cover
    refine yy_look hp hb4 sb B2 hC Nov rfl hv c1 c5 (fun sn2 sc2 g1 g2 g3 => ?_)
    have hh := h sn2 sc2 (fun m hm => ⟨g1 m hm, by
      cases oo : bt_cf cc cv (s p) (nI ov) with
      | none =>
        have e1 := hv0 oo
        have : m = 0 := by omega
        rw [this]; exact g2 oo
      | some k => exact g3 k oo m hm⟩)
    have c26 : wY_cover_26 post (nI p) (nI ov) (nI ord) b (nI (K + N)) ls es tt (nI c) (nI N) st nm pa ve sz sm it dr th sY tY dl dy dm vc ms me cr hd hN ps la ey tn tm sn2 sc2 fn fc := by
      refine ⟨ip.2.2.2.2.1, ?_⟩
      rw [ip.2.2.2.2.2.1, sb]
      exact yy_coverOf hb4 hC (bt_Nx Nov) (br_c (fun z => hh.1 z) (fun z => ⟨ip.2.2.2.2.1, yy_free hb4 hC (hh.2 z)⟩))
    refine ek_if (bt_e0 (by omega)) (fun z => ?_) (fun z => ?_)
    · have := K0 z
      subst this
      have e : nI (0 + N) = nI N := congrArg nI (by omega)
      rw [e] at c26
      exact c26
    · have := Kc z
      subst this
      have e : nI (K + N) = nI N + nI K := by rw [nI_add, Nat.add_comm]
      rw [e] at c26
      exact c26
  by_cases full : K + N ≤ 5
  · -- the layout
    have hFE : ∃ F E, (ord = 0 → K = 0 ∧ F = 0) ∧ (ord = 1 → F = 0 ∧ E = N ∧ K = c) ∧ (ord = 2 → F = K ∧ E = 0 ∧ K = c) ∧ F + N ≤ 5 ∧ ∀ m, m < K + N → (∃ m', m' < N ∧ m = F + m') ∨ (∃ m', m' < K ∧ m = E + m') := by
      have m3 : ord = 0 ∨ ord = 1 ∨ ord = 2 := by omega
      rcases m3 with rfl | rfl | rfl
      · have k0 := K0 rfl
        exact ⟨0, 0, fun _ => ⟨k0, rfl⟩, fun z => by omega, fun z => by omega, by omega, fun m hm => Or.inl ⟨m, by omega, by omega⟩⟩
      · have k0 := Kc (by omega)
        refine ⟨0, N, fun z => by omega, fun _ => ⟨rfl, rfl, k0⟩, fun z => by omega, by omega, fun m hm => ?_⟩
        rcases Nat.lt_or_ge m N with z | z
        · exact Or.inl ⟨m, z, by omega⟩
        · exact Or.inr ⟨m - N, by omega, by omega⟩
      · have k0 := Kc (by omega)
        refine ⟨K, 0, fun z => by omega, fun z => by omega, fun _ => ⟨rfl, rfl, k0⟩, by omega, fun m hm => ?_⟩
        rcases Nat.lt_or_ge m K with z | z
        · exact Or.inr ⟨m, z, by omega⟩
        · exact Or.inl ⟨m - K, by omega, by omega⟩
    obtain ⟨F, E, o0, o1, o2, hF, hcov⟩ := hFE
    -- members of a layout are nodes
    have lyN : ∀ (f h : Nat → Int32) (base : Nat), bt_ly f h base F E N K g (bt_vg mn (s p) (nI ov) (bt_cf cc cv (s p) (nI ov))) (bt_vc mc (s p) (bt_cf cc cv (s p) (nI ov))) b → ∀ m, m < K + N → bt_N st (f (base + m)) := by
      intro f h base ly m hm
      rcases hcov m hm with ⟨m', h1, rfl⟩ | ⟨m', h1, rfl⟩
      · rw [(ly.1 m' h1).1]; exact hgN m' h1
      · rw [(ly.2 m' h1).1]; exact hNs m' (by omega)
    -- X from the place on
    have X77 : ∀ (k : Nat) (cv1 mn1 mc1 : Nat → Int32), k < 6 → cv1 (6 * s p + k) = nI ov → (∀ x, x ≠ 6 * s p + k → cv1 x = cv x) → (∀ m, m < K → mn1 (5 * (6 * s p + k) + m) = bt_vg mn (s p) (nI ov) (bt_cf cc cv (s p) (nI ov)) m ∧ mc1 (5 * (6 * s p + k) + m) = bt_vc mc (s p) (bt_cf cc cv (s p) (nI ov)) m) →
        (∀ x, (x < 5 * (6 * s p + k) ∨ 5 * (6 * s p + k) + 5 ≤ x) → mn1 x = mn x ∧ mc1 x = mc x) → (∀ x, bt_B (mc1 x)) → ∀ post : Int32 → SX → Prop,
        (∀ st2 hl2 cc2 cv2 mn2 mc2 : Nat → Int32, bt_QX st th dl dn cc cv mn mc oc on s t (6 * s p + k) N K F E (nI ov) g (bt_vg mn (s p) (nI ov) (bt_cf cc cv (s p) (nI ov))) (bt_vc mc (s p) (bt_cf cc cv (s p) (nI ov))) b st2 cc2 cv2 mn2 mc2 → post (nI (K + N)) (ls, tl, ec, nI N, st2, dr, nm, pa, ve, sz, it, sm, hl2, th, sp, tb, dl, dn, cc2, cv2, mn2, mc2, oc, on, om, op, tr, el, cm)) →
        wX_coverWithComing_77 post (nI ord) b (nI (6 * s p + k)) (nI K) ls tl ec (nI N) st dr nm pa ve sz it sm hl th sp tb dl dn cc cv1 mn1 mc1 oc on om op tr el cm := by
      intro k cv1 mn1 mc1 hk q1 q2 q3 q4 q5 post h
      have ot : ∀ mn2 mc2 : Nat → Int32, (∀ x, (x < 5 * (6 * s p + k) ∨ 5 * (6 * s p + k) + 5 ≤ x) → mn2 x = mn1 x ∧ mc2 x = mc1 x) → ∀ x, (x < 5 * (6 * s p + k) ∨ 5 * (6 * s p + k) + 5 ≤ x) → mn2 x = mn x ∧ mc2 x = mc x := by
        intro mn2 mc2 a2 x hx
        rw [(a2 x hx).1, (a2 x hx).2]; exact q4 x hx
      refine xc_77 (s := s) (t := t) (F := F) (E := E) (by omega) ho full N1 hb q5 hg q3 o0 (fun z => ⟨(o1 z).1, (o1 z).2.1⟩) (fun z => ⟨(o2 z).1, (o2 z).2.1⟩) (fun mn2 mc2 ly a2 => ?_) (fun st2 hl2 mn2 mc2 ly a2 a3 sw => h st2 hl2 _ cv1 mn2 mc2 ⟨rfl, q1, q2, ly, ot mn2 mc2 a2, a3, sw⟩)
      refine bt_wf_C (p := p) (k := k) (bt_wf_R R) hk (fun x hx => ⟨pk_un hx, q2 x hx⟩) (fun x hx => (ot mn2 mc2 a2 x hx).1) (Or.inr ⟨K + N, by omega, full, pk_us, ?_, fun m hm => ?_⟩)
      · obtain ⟨n, hn, en, _⟩ := Nov
        exact ⟨n, hn, q1.trans en⟩
      · obtain ⟨n, hn, en, _⟩ := lyN mn2 mc2 _ ly m hm
        exact ⟨n, hn, en⟩
    -- Y from the place on
    have VB : ∀ m, m < K → bt_B (bt_vc mc (s p) (bt_cf cc cv (s p) (nI ov)) m) := by
      intro m hm
      cases bt_cf cc cv (s p) (nI ov) with
      | none => exact bt_B0
      | some k => exact B1 _
    have Y59 : ∀ (k : Nat), k < 6 → ∀ st2 cc2 cv2 mn2 mc2 : Nat → Int32, bt_QX st th dl dn cc cv mn mc oc on s t (6 * s p + k) N K F E (nI ov) g (bt_vg mn (s p) (nI ov) (bt_cf cc cv (s p) (nI ov))) (bt_vc mc (s p) (bt_cf cc cv (s p) (nI ov))) b st2 cc2 cv2 mn2 mc2 →
        ∀ (post : Int32 → SY → Prop) (es tt : Int32) (ey tn tm sn sc fn fc : Nat → Int32), (∀ m, m < N → fn m = g m) → (∀ m, m < c → sn m = bt_vg mn (s p) (nI ov) (bt_cf cc cv (s p) (nI ov)) m ∧ sc m = bt_vc mc (s p) (bt_cf cc cv (s p) (nI ov)) m) →
        (∀ (se2 : Int32) (sn2 sc2 vc2 ms2 me2 cr2 : Nat → Int32), bt_R st2 dr nm pa sz th dl sp tb dn cc2 cv2 mn2 mc2 oc on om op sY tY dy dm vc2 ms2 me2 cr2 hd hN ps la s s' t t' → post (nI (K + N)) (ls, es, tt, se2, nI N, st2, nm, pa, ve, sz, sm, it, dr, th, sY, tY, dl, dy, dm, vc2, ms2, me2, cr2, hd, hN, ps, la, ey, tn, tm, sn2, sc2, fn, fc)) →
        wY_cover_59 post (nI ov) (nI ord) b (nI (K + N)) (nI (6 * s' p + k)) ls es tt (nI c) (nI N) st nm pa ve sz sm it dr th sY tY dl dy dm vc ms me cr hd hN ps la ey tn tm sn sc fn fc := by
      intro k hk st2 cc2 cv2 mn2 mc2 q post es tt ey tn tm sn sc fn fc hfn hsn h
      obtain ⟨rfl, q1, q2, ly, q4, q5, sw⟩ := q
      refine yc_59 (F := F) (E := E) (by omega) ho full hb B2 hfn c1 c5 (fun m hm => hsn m (by omega)) VB o0 o1 o2 (fun me2 cr2 ly2 a2 a3 => ?_)
      have R' : bt_R st dr nm pa sz th dl sp tb dn (upd cc (6 * s p + k) (nI (K + N))) cv2 mn2 mc2 oc on om op sY tY dy dm (upd vc (6 * s' p + k) (nI ov)) (upd ms (6 * s' p + k) (nI (K + N))) me2 cr2 hd hN ps la s s' t t' := by
        refine bt_upC (p := p) (k := k) R hp hk tp (fun x hx => ⟨pk_un hx, q2 x hx⟩) q4 (fun x hx => ⟨pk_un hx, pk_un hx⟩) a2 q5 a3 (Or.inr ⟨K + N, by omega, full, pk_us, pk_us, ?_, ?_, fun m hm => ⟨?_, ?_, lyN mn2 mc2 _ ly m hm⟩⟩)
        · rw [pk_us]; exact q1
        · rw [q1]; exact Nov
        · rcases hcov m hm with ⟨m', h1, rfl⟩ | ⟨m', h1, rfl⟩
          · rw [(ly.1 m' h1).1, (ly2.1 m' h1).1]
          · rw [(ly.2 m' h1).1, (ly2.2 m' h1).1]
        · rcases hcov m hm with ⟨m', h1, rfl⟩ | ⟨m', h1, rfl⟩
          · rw [(ly.1 m' h1).2, (ly2.1 m' h1).2]
          · rw [(ly.2 m' h1).2, (ly2.2 m' h1).2]
      unfold wY_cover_236
      refine yy_sw R' (fun st3 sw3 => ?_)
      have := bt_sw_u sw3 sw
      subst this
      exact h _ _ _ _ _ _ _ (bt_upSw R' sw)
    have le5 : nI K + nI N ≤ 5 := by rw [nI_add]; exact (bt_le5 (by omega)).mpr full
    have n5 : ¬ (5 : Int32) < nI (K + N) := Int32.not_lt.mpr ((bt_le5 (by omega)).mpr full)
    cases oo : bt_cf cc cv (s p) (nI ov) with
    | some k =>
      obtain ⟨k6, w1, w2, w3, w4, w5⟩ := hS k oo
      have jk := bt_ix24 (q := 6 * s p + k) (by omega)
      have jk' := bt_ix24 (q := 6 * s' p + k) (by omega)
      have X77k := X77 k cv mn mc k6 w3 (fun _ _ => rfl)
      have Y59k := Y59 k k6
      rw [oo] at X22 Y26 X77k Y59k
      refine Or.inr ⟨nI (K + N), _, fun post h => X22 post (br_t le5 (br_f jk.2.2.2.2.2.2 (X77k (fun m hm => ⟨rfl, rfl⟩) (fun _ _ => ⟨rfl, rfl⟩) B1 post h))), fun st2 cc2 cv2 mn2 mc2 q post es tt se ey tn tm sn sc fn fc hfn h => Y26 post es tt se ey tn tm sn sc fn fc (fun sn2 sc2 hsn => br_t jk'.2.1 (Y59k st2 cc2 cv2 mn2 mc2 q post es tt ey tn tm sn2 sc2 fn fc hfn hsn h))⟩
    | none =>
      have c0 := hv0 oo
      cases uu : bt_uf cc (s p) with
      | none =>
        rw [oo] at X22 Y26
        rw [uu] at Y26
        refine Or.inl ⟨fun post h => X22 post (br_t le5 (br_t rfl (xx_unused ha ?_))), fun post es tt se ey tn tm sn sc fn fc hfn h => Y26 post es tt se ey tn tm sn sc fn fc (fun sn2 sc2 hsn => br_f (show ¬ (0 : Int32) ≤ -1 by decide) (br_f n5 (br_f (show ¬ (0 : Int32) ≤ -1 by decide) (h _ _ _))))⟩
        rw [uu]; exact br_t rfl h
      | some k =>
        obtain ⟨_, k6, _, _⟩ := bt_f_s 6 0 uu
        have k6' : k < 6 := by omega
        have jk := bt_ix24 (q := 6 * s p + k) (by omega)
        have jk' := bt_ix24 (q := 6 * s' p + k) (by omega)
        have X77k := X77 k (upd cv (6 * s p + k) (nI ov)) (upd mn (5 * (6 * s p + k) + 0) (nI ov)) (upd mc (5 * (6 * s p + k) + 0) 0) k6' pk_us (fun x hx => pk_un hx)
        have Y59k := Y59 k k6'
        rw [oo] at X22 Y26 X77k Y59k
        rw [uu] at Y26
        refine Or.inr ⟨nI (K + N), _, fun post h => X22 post (br_t le5 (br_t rfl (xx_unused ha ?_))), fun st2 cc2 cv2 mn2 mc2 q post es tt se ey tn tm sn sc fn fc hfn h => Y26 post es tt se ey tn tm sn sc fn fc (fun sn2 sc2 hsn => br_f (show ¬ (0 : Int32) ≤ -1 by decide) (Y59k st2 cc2 cv2 mn2 mc2 q post es tt ey tn tm sn2 sc2 fn fc hfn hsn h))⟩
        rw [uu]
        refine br_f jk.2.2.2.2.2.2 ⟨jk.2.2.2.2.1, nm_r (show _ = upd cv (6 * s p + k) (nI ov) from congrArg (fun z => upd cv z (nI ov)) jk.2.2.2.2.2.1) (xx_put (m := 0) (by omega) (by omega) bt_B0 (X77k (fun m hm => ?_) (fun x hx => ?_) (bt_Bu B1 bt_B0) post h))⟩
        · have : m = 0 := by omega
          subst this
          rw [pk_us, pk_us]; exact ⟨rfl, rfl⟩
        · rw [pk_un (by omega), pk_un (by omega)]; exact ⟨rfl, rfl⟩
  · have g5 : ¬ nI K + nI N ≤ 5 := by rw [nI_add]; exact fun z => full ((bt_le5 (by omega)).mp z)
    have n5 : (5 : Int32) < nI (K + N) := nI_lt (a := 5) (by omega) (by omega)
    exact Or.inl ⟨fun post h => X22 post (br_f g5 h), fun post es tt se ey tn tm sn sc fn fc hfn h => Y26 post es tt se ey tn tm sn sc fn fc (fun sn2 sc2 hsn => br_c (fun _ => br_t n5 (h _ _ _)) (fun _ => br_t n5 (h _ _ _)))⟩
end
end
section
theorem bt_ord {x : Int32} (a : ¬ x < 0) (b : x ≤ 2) : ∃ o, o ≤ 2 ∧ x = nI o := nI_of2 (M := 2) (n := 2) (by decide) a b
section
variable {ls tl ec kc : Int32} {st dr nm pa ve sz it sm hl th sp tb dl dn cc cv mn mc oc on om op tr el cm : Nat → Int32} {es tt se fr : Int32} {sY tY dy dm vc ms me cr hd hN ps la ey tn tm sn sc fn fc : Nat → Int32} {s s' t t' : Nat → Nat}
theorem xx_ord {post : Int32 → Prop} {x : Int32} (h1 : ¬ x < 0 → x ≤ 2 → post 1) (h0 : ¬ (¬ x < 0 ∧ x ≤ 2) → post 0) : wpX_isOrder post x := by
  refine br_c (fun a => h0 (fun z => z.1 a)) (fun a => br_c (fun b => h0 (fun z => Int32.not_lt.mpr z.2 b)) (fun b => h1 a (Int32.not_lt.mp b)))
theorem xb_129 {post : Int32 → SX → Prop} {p a N : Nat} {x x4 x5 x7 : Int32} {o : Option Nat} (hp : p < 4) (ha : a < 4) (N5 : N ≤ 5) (sa : sp p = nI a) (hof : ∀ k, o = some k → k < 6)
    (h : ∀ cm2 : Nat → Int32, (∀ m, m < N → cm2 m = bt_vg mn a x o m) → ∀ post' : Int32 → SX → Prop, (∀ (r : Int32) (ls tl ec kc : Int32) (st dr nm pa ve sz it sm hl th sp tb dl dn cc cv mn mc oc on om op tr el cm : Nat → Int32), post r (ls, tl, ec, kc, st, dr, nm, pa, ve, sz, it, sm, hl, th, sp, tb, dl, dn, cc, cv, mn, mc, oc, on, om, op, tr, el, cm) → post' r (ls, tl, ec, kc, st, dr, nm, pa, ve, sz, it, sm, hl, th, sp, tb, dl, dn, cc, cv, mn, mc, oc, on, om, op, tr, el, cm)) → wpX_coverWithComing post' (ls, tl, ec, nI N, st, dr, nm, pa, ve, sz, it, sm, hl, th, sp, tb, dl, dn, cc, cv, mn, mc, oc, on, om, op, tr, el, cm2) (nI a) x7 x4 x5) :
    ∀ (e q n : Nat) (cm2 : Nat → Int32), q + e = N → e < n → (∀ m, m < q → cm2 m = bt_vg mn a x o m) → wX_bind_129 post (nI p) x4 x5 x x7 (bt_of (6 * a) o) ls tl ec (nI N) n (nI q) st dr nm pa ve sz it sm hl th sp tb dl dn cc cv mn mc oc on om op tr el cm2 := by
  have ip := bt_ix4 hp
  intro e
  induction e with
  | zero =>
    intro q n cm2 hq hn h1
    obtain ⟨n, rfl⟩ : ∃ n', n = n' + 1 := ⟨n - 1, by omega⟩
    have : q = N := by omega
    subst this
    refine br_t (Int32.le_refl _) ⟨ip.2.2.2.2.1, ?_⟩
    rw [ip.2.2.2.2.2.1, sa]
    exact h cm2 h1 _ (fun r ls tl ec kc st dr nm pa ve sz it sm hl th sp tb dl dn cc cv mn mc oc on om op tr el cm z => z)
  | succ e ih =>
    intro q n cm2 hq hn h1
    obtain ⟨n, rfl⟩ : ∃ n', n = n' + 1 := ⟨n - 1, by omega⟩
    have iq := bt_ix5 (q := q) (by omega)
    refine br_f (nI_ge (by omega) (by omega)) (xx_seenNode ha (by omega) hof ⟨iq.2.2.2.2.1, ?_⟩)
    rw [iq.2.2.2.2.2.1]
    refine nm_e (nm_r (nI_1 _) (ih (q + 1) n _ (by omega) (by omega) (fun m hm => ?_)))
    by_cases w : m = q
    · rw [w, pk_us]
    · rw [pk_un w]; exact h1 m (by omega)
theorem yb_117 {post : Int32 → SY → Prop} {N : Nat} {x1 x4 x5 x7 : Int32} (N5 : N ≤ 5)
    (h : ∀ fn2 : Nat → Int32, (∀ m, m < N → fn2 m = sn m) → ∀ post' : Int32 → SY → Prop, (∀ (r : Int32) (ls es tt se fr : Int32) (st nm pa ve sz sm it dr th sY tY dl dy dm vc ms me cr hd hN ps la ey tn tm sn sc fn fc : Nat → Int32), post r (ls, es, tt, se, fr, st, nm, pa, ve, sz, sm, it, dr, th, sY, tY, dl, dy, dm, vc, ms, me, cr, hd, hN, ps, la, ey, tn, tm, sn, sc, fn, fc) → post' r (ls, es, tt, se, fr, st, nm, pa, ve, sz, sm, it, dr, th, sY, tY, dl, dy, dm, vc, ms, me, cr, hd, hN, ps, la, ey, tn, tm, sn, sc, fn, fc)) → wpY_cover post' (ls, es, tt, nI N, nI N, st, nm, pa, ve, sz, sm, it, dr, th, sY, tY, dl, dy, dm, vc, ms, me, cr, hd, hN, ps, la, ey, tn, tm, sn, sc, fn2, fc) x1 x7 x4 x5) :
    ∀ (e q n : Nat) (fn2 : Nat → Int32), q + e = N → e < n → (∀ m, m < q → fn2 m = sn m) → wY_bind_117 post x1 x4 x5 x7 ls es tt (nI N) (nI N) n (nI q) st nm pa ve sz sm it dr th sY tY dl dy dm vc ms me cr hd hN ps la ey tn tm sn sc fn2 fc := by
  intro e
  induction e with
  | zero =>
    intro q n fn2 hq hn h1
    obtain ⟨n, rfl⟩ : ∃ n', n = n' + 1 := ⟨n - 1, by omega⟩
    have : q = N := by omega
    subst this
    exact br_t (Int32.le_refl _) (h fn2 h1 _ (fun r ls es tt se fr st nm pa ve sz sm it dr th sY tY dl dy dm vc ms me cr hd hN ps la ey tn tm sn sc fn fc z => z))
  | succ e ih =>
    intro q n fn2 hq hn h1
    obtain ⟨n, rfl⟩ : ∃ n', n = n' + 1 := ⟨n - 1, by omega⟩
    have iq := bt_ix5 (q := q) (by omega)
    have iq' := bt_ix11 (q := q) (by omega)
    refine br_f (nI_ge (by omega) (by omega)) ⟨iq.2.2.2.2.1, iq'.2.2.2.2.1, ?_⟩
    rw [iq.2.2.2.2.2.1]
    refine nm_e (nm_r (nI_1 _) (ih (q + 1) n _ (by omega) (by omega) (fun m hm => ?_)))
    by_cases w : m = q
    · rw [w, pk_us]
    · rw [pk_un w]; exact h1 m (by omega)
end
theorem i_vc_mount {k : Nat} {u : SX} {v : SY} (I : i_Rel k u v) (hk : k + 6 ≤ 3072) (v1 : Int32) (v2 : Int32) (v3 : Int32) (v4 : Int32) (v5 : Int32) : wpX_mount (fun r u' => wpY_mount (fun r' v' => r' = r ∧ i_Rel (k + 6) u' v') v v1 v2 v3 v4 (lw_bz v5)) u v1 v2 v3 v4 (lw_bz v5) := by
  obtain ⟨ls, tl, ec, kc, es, tt, se, fr, st, dr, nm, pa, ve, sz, it, sm, hl, th, sp, tb, dl, dn, cc, cv, mn, mc, oc, on, om, op, tr, el, cm, sY, tY, dy, dm, vc, ms, me, cr, hd, hN, ps, la, ey, tn, tm, sn, sc, fn, fc, s, s', t, t', rfl, rfl, R⟩ := I
  obtain ⟨m, D, rx, dx⟩ := bt_xd v3
  have hb : bt_B (lw_bz v5) := lw_bz_01 v5
  unfold wpX_mount
  by_cases hp0 : ∃ q, q < 4 ∧ v1 = nI q ∧ th q ≠ 0
  · obtain ⟨p, hp, rfl, tp⟩ := hp0
    have ip := bt_ix4 hp
    -- Y refuses: what it owes once the process and the path are seen to
    have Yr : ((bt_g m D → (v2 < 0 ∨ (¬ v2 < 0 ∧ 2 < v2) ∨ (¬ v2 < 0 ∧ ¬ 2 < v2 ∧ v4 < 0) ∨ (¬ v2 < 0 ∧ ¬ 2 < v2 ∧ ¬ v4 < 0 ∧ ¬ v4 ≤ 2)))) → wpY_mount (fun r' v' => r' = -1 ∧ i_Rel (k + 6) (ls, tl, ec, kc, st, dr, nm, pa, ve, sz, it, sm, hl, th, sp, tb, dl, dn, cc, cv, mn, mc, oc, on, om, op, tr, el, cm) v') (ls, es, tt, se, fr, st, nm, pa, ve, sz, sm, it, dr, th, sY, tY, dl, dy, dm, vc, ms, me, cr, hd, hN, ps, la, ey, tn, tm, sn, sc, fn, fc) (nI p) v2 v3 v4 (lw_bz v5) := by
      intro h
      unfold wpY_mount
      by_cases g : bt_g m D
      · refine yy_isPath1 hp tp rx dx g (fun ey2 _ => br_f (by decide) ?_)
        rcases h g with a | ⟨a, b⟩ | ⟨a, b, c⟩ | ⟨a, b, c, d⟩
        · exact br_t a ⟨rfl, bt_mkR R⟩
        · exact br_f a (br_t b ⟨rfl, bt_mkR R⟩)
        · exact br_f a (br_f b (br_t c ⟨rfl, bt_mkR R⟩))
        · exact br_f a (br_f b (br_f c (br_f d ⟨rfl, bt_mkR R⟩)))
      · exact yy_isPath0 rx dx (fun z => g z.2) (fun es2 ey2 => br_t rfl ⟨rfl, bt_mkR R⟩)
    refine xx_isP1 hp tp (br_f (by decide) ?_)
    by_cases a : v2 < 0
    · exact br_t a (Yr (fun _ => Or.inl a))
    by_cases b : (3 : Int32) ≤ v2
    · exact br_f a (br_t b (Yr (fun _ => Or.inr (Or.inl ⟨a, Int32.lt_of_lt_of_le (by decide) b⟩))))
    obtain ⟨tree, t3, rfl⟩ : ∃ j, j < 3 ∧ v2 = nI j := by
      rcases pk_ix v2 (n := 3) (by decide) with z | z | z
      · exact absurd z a
      · exact absurd z b
      · exact z
    have b2 : ¬ (2 : Int32) < nI tree := Int32.not_lt.mpr (nI_le (b := 2) (by omega) (by decide))
    refine br_f a (br_f b (xx_path rx dx (fun gx => br_f (by decide) (xx_ord (fun q0 q2 => br_f (by decide) ?_) (fun q => br_t rfl (Yr (fun _ => ?_))))) (fun g => br_t rfl (Yr (fun z => absurd z g)))))
    · obtain ⟨ord, o2, rfl⟩ := bt_ord q0 q2
      obtain ⟨r, L', tr', el2, an, hT2, fX, fY⟩ := ev_R (ls := ls) (tl := tl) (ec := ec) (kc := kc) (st := st) (dr := dr) (nm := nm) (pa := pa) (ve := ve) (sz := sz) (it := it) (sm := sm) (hl := hl) (th := th) (sp := sp) (tb := tb) (dl := dl) (dn := dn) (cc := cc) (cv := cv) (mn := mn) (mc := mc) (oc := oc) (on := on) (om := om) (op := op) (tr := tr) (el := el) (cm := cm) R hp tp rx dx gx
      have toY : ∀ post : Int32 → SY → Prop, (∀ (es2 se2 : Int32) (ey2 tn2 tm2 sn2 sc2 : Nat → Int32), ((0 ≤ r → (vp_in r 48 ∧ ((dr r.toNatClampNeg = 0 → post (-7) (ls, es2, nI L', se2, fr, st, nm, pa, ve, sz, sm, it, dr, th, sY, tY, dl, dy, dm, vc, ms, me, cr, hd, hN, ps, la, ey2, tn2, tm2, sn2, sc2, fn, fc)) ∧ (¬ dr r.toNatClampNeg = 0 → ∀ fn2, fn2 = upd fn 0 (nI tree) → ∀ post' : Int32 → SY → Prop, (∀ (r : Int32) (ls es tt se fr : Int32) (st nm pa ve sz sm it dr th sY tY dl dy dm vc ms me cr hd hN ps la ey tn tm sn sc fn fc : Nat → Int32), post r (ls, es, tt, se, fr, st, nm, pa, ve, sz, sm, it, dr, th, sY, tY, dl, dy, dm, vc, ms, me, cr, hd, hN, ps, la, ey, tn, tm, sn, sc, fn, fc) → post' r (ls, es, tt, se, fr, st, nm, pa, ve, sz, sm, it, dr, th, sY, tY, dl, dy, dm, vc, ms, me, cr, hd, hN, ps, la, ey, tn, tm, sn, sc, fn, fc)) → wpY_cover post' (ls, es2, nI L', se2, 1, st, nm, pa, ve, sz, sm, it, dr, th, sY, tY, dl, dy, dm, vc, ms, me, cr, hd, hN, ps, la, ey2, tn2, tm2, sn2, sc2, fn2, fc) (nI p) r (nI ord) (lw_bz v5))))) ∧
          (¬ 0 ≤ r → post r (ls, es2, nI L', se2, fr, st, nm, pa, ve, sz, sm, it, dr, th, sY, tY, dl, dy, dm, vc, ms, me, cr, hd, hN, ps, la, ey2, tn2, tm2, sn2, sc2, fn, fc)))) → wpY_mount post (ls, es, tt, se, fr, st, nm, pa, ve, sz, sm, it, dr, th, sY, tY, dl, dy, dm, vc, ms, me, cr, hd, hN, ps, la, ey, tn, tm, sn, sc, fn, fc) (nI p) (nI tree) v3 (nI ord) (lw_bz v5) := by
        intro post h
        unfold wpY_mount
        refine yy_isPath1 hp tp rx dx gx (fun ey2 _ => br_f (by decide) (br_f a (br_f b2 (br_f q0 (br_t q2 (fY _ _ _ _ _ _ _ _ _ _ _ _ (fun es2 se2 ey3 tn2 tm2 sn2 sc2 ht => ?_)))))))
        have hh := h es2 se2 ey3 tn2 tm2 sn2 sc2
        refine br_c (fun z => ⟨(hh.1 z).1, br_c (fun y => (hh.1 z).2.1 y) (fun y fn2 e => (hh.1 z).2.2 y fn2 e _ (fun r ls es tt se fr st nm pa ve sz sm it dr th sY tY dl dy dm vc ms me cr hd hN ps la ey tn tm sn sc fn fc w => w))⟩) (fun z => hh.2 z)
      rcases bt_an2 an with ng | ⟨n, hn, rfl, zn, _⟩
      · exact fX _ (br_f ng (toY _ (fun es2 se2 ey2 tn2 tm2 sn2 sc2 => br_f ng ⟨rfl, bt_mkR R⟩)))
      · have i0 : (0 : Int32) ≤ nI n := nI_pos' (by omega)
        have ix := bt_ix48 hn
        by_cases d0 : dr n = 0
        · have d0' : dr (nI n).toNatClampNeg = 0 := by rw [ix.2.2.2.2.2.1]; exact d0
          exact fX _ (br_t i0 ⟨ix.2.2.2.2.1, br_t d0' (toY _ (fun es2 se2 ey2 tn2 tm2 sn2 sc2 => br_t i0 ⟨ix.2.2.2.2.1, br_t d0' ⟨rfl, bt_mkR R⟩⟩))⟩)
        · have d0' : ¬ dr (nI n).toNatClampNeg = 0 := by rw [ix.2.2.2.2.2.1]; exact d0
          have Nov : bt_N st (nI n) := ⟨n, hn, rfl, zn⟩
          refine fX _ (br_t i0 ⟨ix.2.2.2.2.1, br_f d0' (nm_e ⟨ip.2.2.2.2.1, ?_⟩)⟩)
          show wpX_coverWithComing _ (ls, nI L', nI D, 1, st, dr, nm, pa, ve, sz, it, sm, hl, th, sp, tb, dl, dn, cc, cv, mn, mc, oc, on, om, op, tr', el2, upd cm 0 (nI tree)) (sp (nI p).toNatClampNeg) (nI n) (nI ord) (lw_bz v5)
          rw [ip.2.2.2.2.2.1, (R.2.2.2.1.1 p hp).1]
          rcases cov_R (ls := ls) (tl := nI L') (ec := nI D) (st := st) (dr := dr) (nm := nm) (pa := pa) (ve := ve) (sz := sz) (it := it) (sm := sm) (hl := hl) (th := th) (sp := sp) (tb := tb) (dl := dl) (dn := dn) (cc := cc) (cv := cv) (mn := mn) (mc := mc) (oc := oc) (on := on) (om := om) (op := op) (tr := tr') (el := el2) (cm := upd cm 0 (nI tree)) (sY := sY) (tY := tY) (dy := dy) (dm := dm) (vc := vc) (ms := ms) (me := me) (cr := cr) (hd := hd) (hN := hN) (ps := ps) (la := la) (p := p) (ov := n) (N := 1) (ord := ord) (b := lw_bz v5) (g := fun _ => nI tree) R hp tp Nov o2 (by omega) (by omega) (fun m hm => ⟨tree, by omega, rfl, R.1.2.1 tree t3⟩) hb (fun m hm => by
            have : m = 0 := by omega
            rw [this]; exact pk_us) with ⟨cX, cY⟩ | ⟨r2, Q, cX, cY⟩
          · exact cX _ (toY _ (fun es2 se2 ey2 tn2 tm2 sn2 sc2 => br_t i0 ⟨ix.2.2.2.2.1, br_f d0' (fun fn2 e post' hpp => cY post' _ _ _ _ _ _ _ _ fn2 _ (fun m hm => by
              have : m = 0 := by omega
              rw [this, e]; exact pk_us) (fun se3 sn3 sc3 => hpp _ _ _ _ _ _ _ _ _ _ _ _ _ _ _ _ _ _ _ _ _ _ _ _ _ _ _ _ _ _ _ _ _ _ _ ⟨rfl, bt_mkR R⟩))⟩))
          · exact cX _ (fun st2 hl2 cc2 cv2 mn2 mc2 q => toY _ (fun es2 se2 ey2 tn2 tm2 sn2 sc2 => br_t i0 ⟨ix.2.2.2.2.1, br_f d0' (fun fn2 e post' hpp => cY st2 cc2 cv2 mn2 mc2 q post' _ _ _ _ _ _ _ _ fn2 _ (fun m hm => by
              have : m = 0 := by omega
              rw [this, e]; exact pk_us) (fun se3 sn3 sc3 vc2 ms2 me2 cr2 R2 => hpp _ _ _ _ _ _ _ _ _ _ _ _ _ _ _ _ _ _ _ _ _ _ _ _ _ _ _ _ _ _ _ _ _ _ _ ⟨rfl, bt_mkR R2⟩))⟩))
    · by_cases w : v4 < 0
      · exact Or.inr (Or.inr (Or.inl ⟨a, b2, w⟩))
      · exact Or.inr (Or.inr (Or.inr ⟨a, b2, w, fun y => q ⟨w, y⟩⟩))
  · refine xx_isP0 hp0 (br_t rfl ?_)
    unfold wpY_mount
    exact yy_isPath0 rx dx (fun z => hp0 z.1) (fun es2 ey2 => br_t rfl ⟨rfl, bt_mkR R⟩)
end
section
theorem i_vc_bind {k : Nat} {u : SX} {v : SY} (I : i_Rel k u v) (hk : k + 6 ≤ 3072) (v1 : Int32) (v2 : Int32) (v3 : Int32) (v4 : Int32) (v5 : Int32) : wpX_bind (fun r u' => wpY_bind (fun r' v' => r' = r ∧ i_Rel (k + 6) u' v') v v1 v2 v3 v4 (lw_bz v5)) u v1 v2 v3 v4 (lw_bz v5) := by
  obtain ⟨ls, tl, ec, kc, es, tt, se, fr, st, dr, nm, pa, ve, sz, it, sm, hl, th, sp, tb, dl, dn, cc, cv, mn, mc, oc, on, om, op, tr, el, cm, sY, tY, dy, dm, vc, ms, me, cr, hd, hN, ps, la, ey, tn, tm, sn, sc, fn, fc, s, s', t, t', rfl, rfl, R⟩ := I
  obtain ⟨m, D, rx, dx⟩ := bt_xd v2
  obtain ⟨m', D', rx', dx'⟩ := bt_xd v3
  have hb : bt_B (lw_bz v5) := lw_bz_01 v5
  unfold wpX_bind
  by_cases hp0 : ∃ q, q < 4 ∧ v1 = nI q ∧ th q ≠ 0
  · obtain ⟨p, hp, rfl, tp⟩ := hp0
    have ip := bt_ix4 hp
    have Yr : ((bt_g m D → bt_g m' D' → (v4 < 0 ∨ (¬ v4 < 0 ∧ ¬ v4 ≤ 2)))) → wpY_bind (fun r' v' => r' = -1 ∧ i_Rel (k + 6) (ls, tl, ec, kc, st, dr, nm, pa, ve, sz, it, sm, hl, th, sp, tb, dl, dn, cc, cv, mn, mc, oc, on, om, op, tr, el, cm) v') (ls, es, tt, se, fr, st, nm, pa, ve, sz, sm, it, dr, th, sY, tY, dl, dy, dm, vc, ms, me, cr, hd, hN, ps, la, ey, tn, tm, sn, sc, fn, fc) (nI p) v2 v3 v4 (lw_bz v5) := by
      intro h
      unfold wpY_bind
      by_cases g : bt_g m D
      · refine yy_isPath1 hp tp rx dx g (fun ey2 _ => br_f (by decide) (yy_split rx' dx' (fun g' ey3 _ => br_f (by decide) ?_) (fun _ ey3 => br_t rfl ⟨rfl, bt_mkR R⟩)))
        rcases h g g' with a | ⟨a, b⟩
        · exact br_t a ⟨rfl, bt_mkR R⟩
        · exact br_f a (br_f b ⟨rfl, bt_mkR R⟩)
      · exact yy_isPath0 rx dx (fun z => g z.2) (fun es2 ey2 => br_t rfl ⟨rfl, bt_mkR R⟩)
    refine xx_isP1 hp tp (br_f (by decide) (xx_path rx dx (fun gx => br_f (by decide) (xx_path rx' dx' (fun gx' => br_f (by decide) (xx_ord (fun q0 q2 => br_f (by decide) ?_) (fun q => br_t rfl (Yr (fun _ _ => ?_))))) (fun g => br_t rfl (Yr (fun _ z => absurd z g))))) (fun g => br_t rfl (Yr (fun z _ => absurd z g)))))
    · obtain ⟨ord, o2, rfl⟩ := bt_ord q0 q2
      obtain ⟨r, L', tr', el2, an, hT2, fX, fY⟩ := ev_R (ls := ls) (tl := tl) (ec := ec) (kc := kc) (st := st) (dr := dr) (nm := nm) (pa := pa) (ve := ve) (sz := sz) (it := it) (sm := sm) (hl := hl) (th := th) (sp := sp) (tb := tb) (dl := dl) (dn := dn) (cc := cc) (cv := cv) (mn := mn) (mc := mc) (oc := oc) (on := on) (om := om) (op := op) (tr := tr) (el := el) (cm := cm) R hp tp rx dx gx
      rcases bt_an2 an with ng | ⟨n, hn, rfl, zn, _⟩
      · refine fX _ (br_f ng ?_)
        unfold wpY_bind
        exact yy_isPath1 hp tp rx dx gx (fun ey2 _ => br_f (by decide) (yy_split rx' dx' (fun _ ey3 _ => br_f (by decide) (br_f q0 (br_t q2 (fY _ _ _ _ _ _ _ _ _ _ _ _ (fun es2 se2 ey4 tn2 tm2 sn2 sc2 ht => br_f ng ⟨rfl, bt_mkR R⟩))))) (fun z => absurd gx' z)))
      · have i0 : (0 : Int32) ≤ nI n := nI_pos' (by omega)
        have ix := bt_ix48 hn
        have Nf : bt_N st (nI n) := ⟨n, hn, rfl, zn⟩
        obtain ⟨r', L2, tr2, el3, an', hT2', fX', fY'⟩ := ev_R (ls := ls) (tl := nI L') (ec := nI D) (kc := kc) (st := st) (dr := dr) (nm := nm) (pa := pa) (ve := ve) (sz := sz) (it := it) (sm := sm) (hl := hl) (th := th) (sp := sp) (tb := tb) (dl := dl) (dn := dn) (cc := cc) (cv := cv) (mn := mn) (mc := mc) (oc := oc) (on := on) (om := om) (op := op) (tr := tr') (el := el2) (cm := cm) R hp tp rx' dx' gx'
        -- Y up to the second evaluation
        have toY : ∀ post : Int32 → SY → Prop, (∀ (es2 se2 : Int32) (ey2 tn2 tm2 sn2 sc2 : Nat → Int32),
            ((0 ≤ r' → (vp_in (nI n) 48 ∧ (vp_in r' 48 ∧ ((dr n = dr r'.toNatClampNeg → (vp_in (nI n) 48 ∧ ((dr n = 0 → ((nI ord = 0 → wY_bind_99 post (nI p) (nI ord) (lw_bz v5) (nI n) r' ls es2 (nI L2) se2 fr st nm pa ve sz sm it dr th sY tY dl dy dm vc ms me cr hd hN ps la ey2 tn2 tm2 sn2 sc2 fn fc) ∧ (¬ nI ord = 0 → post (-7) (ls, es2, nI L2, se2, fr, st, nm, pa, ve, sz, sm, it, dr, th, sY, tY, dl, dy, dm, vc, ms, me, cr, hd, hN, ps, la, ey2, tn2, tm2, sn2, sc2, fn, fc)))) ∧
                (¬ dr n = 0 → wY_bind_99 post (nI p) (nI ord) (lw_bz v5) (nI n) r' ls es2 (nI L2) se2 fr st nm pa ve sz sm it dr th sY tY dl dy dm vc ms me cr hd hN ps la ey2 tn2 tm2 sn2 sc2 fn fc)))) ∧ (¬ dr n = dr r'.toNatClampNeg → post (-7) (ls, es2, nI L2, se2, fr, st, nm, pa, ve, sz, sm, it, dr, th, sY, tY, dl, dy, dm, vc, ms, me, cr, hd, hN, ps, la, ey2, tn2, tm2, sn2, sc2, fn, fc)))))) ∧
             (¬ 0 ≤ r' → post r' (ls, es2, nI L2, se2, fr, st, nm, pa, ve, sz, sm, it, dr, th, sY, tY, dl, dy, dm, vc, ms, me, cr, hd, hN, ps, la, ey2, tn2, tm2, sn2, sc2, fn, fc)))) → wpY_bind post (ls, es, tt, se, fr, st, nm, pa, ve, sz, sm, it, dr, th, sY, tY, dl, dy, dm, vc, ms, me, cr, hd, hN, ps, la, ey, tn, tm, sn, sc, fn, fc) (nI p) v2 v3 (nI ord) (lw_bz v5) := by
          intro post h
          unfold wpY_bind
          refine yy_isPath1 hp tp rx dx gx (fun ey2 _ => br_f (by decide) (yy_split rx' dx' (fun _ ey3 _ => br_f (by decide) (br_f q0 (br_t q2 (fY _ _ _ _ _ _ _ _ _ _ _ _ (fun es2 se2 ey4 tn2 tm2 sn2 sc2 ht => br_t i0 (fY' _ _ _ _ _ _ _ _ _ _ _ _ (fun es3 se3 ey5 tn3 tm3 sn3 sc3 ht' => ?_))))))) (fun z => absurd gx' z)))
          have hh := h es3 se3 ey5 tn3 tm3 sn3 sc3
          refine br_c (fun z => ?_) (fun z => hh.2 z)
          rw [ix.2.2.2.2.2.1]
          exact hh.1 z
        refine fX _ (br_t i0 (fX' _ ?_))
        rcases bt_an2 an' with ng | ⟨n', hn', rfl, zn', _⟩
        · exact br_f ng (toY _ (fun es2 se2 ey2 tn2 tm2 sn2 sc2 => br_f ng ⟨rfl, bt_mkR R⟩))
        · have i0' : (0 : Int32) ≤ nI n' := nI_pos' (by omega)
          have ix' := bt_ix48 hn'
          have Nov : bt_N st (nI n') := ⟨n', hn', rfl, zn'⟩
          rw [ix'.2.2.2.2.2.1] at toY
          refine br_t i0' ⟨ix.2.2.2.2.1, ix'.2.2.2.2.1, ?_⟩
          rw [ix.2.2.2.2.2.1, ix'.2.2.2.2.2.1]
          by_cases kd : dr n = dr n'
          · by_cases bad : dr n' = 0 ∧ ¬ nI ord = 0
            · have y0 : dr n = 0 := kd.trans bad.1
              exact br_t kd ⟨ix'.2.2.2.2.1, br_t bad.1 (br_f bad.2 (toY _ (fun es2 se2 ey2 tn2 tm2 sn2 sc2 => br_t i0' ⟨ix.2.2.2.2.1, ix'.2.2.2.2.1, br_t kd ⟨ix.2.2.2.2.1, br_t y0 (br_f bad.2 ⟨rfl, bt_mkR R⟩)⟩⟩)))⟩
            · -- the bind is made
              have J := R
              obtain ⟨RA, B1, B2, RS, RT, RP⟩ := J
              obtain ⟨hT, hC, hD⟩ := RP p hp tp
              obtain ⟨sa, ha, sb, hb4⟩ := RS.1 p hp
              obtain ⟨c, c1, c5, hv, hNs, hv0, hS⟩ := bt_view hC Nf
              have hof : ∀ k', bt_cf cc cv (s p) (nI n) = some k' → k' < 6 := fun k' hk' => (hS k' hk').1
              have Yg : ∀ post : Int32 → SY → Prop, (∀ (es2 se2 : Int32) (ey2 tn2 tm2 sn2 sc2 : Nat → Int32), wY_bind_99 post (nI p) (nI ord) (lw_bz v5) (nI n) (nI n') ls es2 (nI L2) se2 fr st nm pa ve sz sm it dr th sY tY dl dy dm vc ms me cr hd hN ps la ey2 tn2 tm2 sn2 sc2 fn fc) → wpY_bind post (ls, es, tt, se, fr, st, nm, pa, ve, sz, sm, it, dr, th, sY, tY, dl, dy, dm, vc, ms, me, cr, hd, hN, ps, la, ey, tn, tm, sn, sc, fn, fc) (nI p) v2 v3 (nI ord) (lw_bz v5) := by
                intro post h
                refine toY _ (fun es2 se2 ey2 tn2 tm2 sn2 sc2 => br_t i0' ⟨ix.2.2.2.2.1, ix'.2.2.2.2.1, br_t kd ⟨ix.2.2.2.2.1, br_c (fun y => br_t ?_ (h _ _ _ _ _ _ _)) (fun y => h _ _ _ _ _ _ _)⟩⟩)
                exact Classical.byContradiction fun z => bad ⟨kd.symm.trans y, z⟩
              have Xg : ∀ post : Int32 → SX → Prop, wX_bind_102 post (nI p) (nI ord) (lw_bz v5) (nI n) (nI n') ls (nI L2) (nI D') kc st dr nm pa ve sz it sm hl th sp tb dl dn cc cv mn mc oc on om op tr2 el3 cm → (dr n' = 0 → ((nI ord = 0 → wX_bind_102 post (nI p) (nI ord) (lw_bz v5) (nI n) (nI n') ls (nI L2) (nI D') kc st dr nm pa ve sz it sm hl th sp tb dl dn cc cv mn mc oc on om op tr2 el3 cm) ∧ (¬ nI ord = 0 → post (-7) (ls, nI L2, nI D', kc, st, dr, nm, pa, ve, sz, it, sm, hl, th, sp, tb, dl, dn, cc, cv, mn, mc, oc, on, om, op, tr2, el3, cm)))) ∧ (¬ dr n' = 0 → wX_bind_102 post (nI p) (nI ord) (lw_bz v5) (nI n) (nI n') ls (nI L2) (nI D') kc st dr nm pa ve sz it sm hl th sp tb dl dn cc cv mn mc oc on om op tr2 el3 cm) := by
                intro post h
                exact ⟨fun y => br_t (Classical.byContradiction fun z => bad ⟨y, z⟩) h, fun _ => h⟩
              refine br_t kd ⟨ix'.2.2.2.2.1, Xg _ ⟨ip.2.2.2.2.1, ?_⟩⟩
              rw [ip.2.2.2.2.2.1, sa]
              refine xx_coverOf ha (bt_Cc hC) (xx_seenCount ha hof ?_)
              rw [hv]
              refine ⟨c + 1, xb_129 hp ha c5 sa hof (fun cm2 hcm post' hpp => ?_) c 0 (c + 1) cm (by omega) (by omega) (fun m hm => by omega)⟩
              have Yf : ∀ post : Int32 → SY → Prop, (∀ (es2 se2 : Int32) (ey2 tn2 tm2 sn2 sc2 fn2 : Nat → Int32), (∀ m, m < c → fn2 m = bt_vg mn (s p) (nI n) (bt_cf cc cv (s p) (nI n)) m) → ∀ post' : Int32 → SY → Prop, (∀ (r : Int32) (ls es tt se fr : Int32) (st nm pa ve sz sm it dr th sY tY dl dy dm vc ms me cr hd hN ps la ey tn tm sn sc fn fc : Nat → Int32), post r (ls, es, tt, se, fr, st, nm, pa, ve, sz, sm, it, dr, th, sY, tY, dl, dy, dm, vc, ms, me, cr, hd, hN, ps, la, ey, tn, tm, sn, sc, fn, fc) → post' r (ls, es, tt, se, fr, st, nm, pa, ve, sz, sm, it, dr, th, sY, tY, dl, dy, dm, vc, ms, me, cr, hd, hN, ps, la, ey, tn, tm, sn, sc, fn, fc)) → wpY_cover post' (ls, es2, nI L2, se2, nI c, st, nm, pa, ve, sz, sm, it, dr, th, sY, tY, dl, dy, dm, vc, ms, me, cr, hd, hN, ps, la, ey2, tn2, tm2, sn2, sc2, fn2, fc) (nI p) (nI n') (nI ord) (lw_bz v5)) → wpY_bind post (ls, es, tt, se, fr, st, nm, pa, ve, sz, sm, it, dr, th, sY, tY, dl, dy, dm, vc, ms, me, cr, hd, hN, ps, la, ey, tn, tm, sn, sc, fn, fc) (nI p) v2 v3 (nI ord) (lw_bz v5) := by
                intro post h
                refine Yg post (fun es2 se2 ey2 tn2 tm2 sn2 sc2 => ?_)
                unfold wY_bind_99
                exact yy_look hp hb4 sb B2 hC Nf rfl hv c1 c5 (fun sn3 sc3 g1 _ _ => ⟨c + 1, yb_117 c5 (fun fn2 hfn post' hpp => h _ _ _ _ _ _ _ fn2 (fun m hm => by rw [hfn m hm, g1 m hm]) post' hpp) c 0 (c + 1) fn (by omega) (by omega) (fun m hm => by omega)⟩)
              rcases cov_R (ls := ls) (tl := nI L2) (ec := nI D') (st := st) (dr := dr) (nm := nm) (pa := pa) (ve := ve) (sz := sz) (it := it) (sm := sm) (hl := hl) (th := th) (sp := sp) (tb := tb) (dl := dl) (dn := dn) (cc := cc) (cv := cv) (mn := mn) (mc := mc) (oc := oc) (on := on) (om := om) (op := op) (tr := tr2) (el := el3) (cm := cm2) (sY := sY) (tY := tY) (dy := dy) (dm := dm) (vc := vc) (ms := ms) (me := me) (cr := cr) (hd := hd) (hN := hN) (ps := ps) (la := la) (p := p) (ov := n') (N := c) (ord := ord) (b := lw_bz v5) (g := bt_vg mn (s p) (nI n) (bt_cf cc cv (s p) (nI n))) R hp tp Nov o2 c1 c5 hNs hb hcm with ⟨cX, cY⟩ | ⟨r2, Q, cX, cY⟩
              · exact cX _ (hpp _ _ _ _ _ _ _ _ _ _ _ _ _ _ _ _ _ _ _ _ _ _ _ _ _ _ _ _ _ _ (Yf _ (fun es2 se2 ey2 tn2 tm2 sn2 sc2 fn2 hfn post' hpp => cY post' _ _ _ _ _ _ _ _ fn2 _ hfn (fun se3 sn3 sc3 => hpp _ _ _ _ _ _ _ _ _ _ _ _ _ _ _ _ _ _ _ _ _ _ _ _ _ _ _ _ _ _ _ _ _ _ _ ⟨rfl, bt_mkR R⟩))))
              · exact cX _ (fun st2 hl2 cc2 cv2 mn2 mc2 q => hpp _ _ _ _ _ _ _ _ _ _ _ _ _ _ _ _ _ _ _ _ _ _ _ _ _ _ _ _ _ _ (Yf _ (fun es2 se2 ey2 tn2 tm2 sn2 sc2 fn2 hfn post' hpp => cY st2 cc2 cv2 mn2 mc2 q post' _ _ _ _ _ _ _ _ fn2 _ hfn (fun se3 sn3 sc3 vc2 ms2 me2 cr2 R2 => hpp _ _ _ _ _ _ _ _ _ _ _ _ _ _ _ _ _ _ _ _ _ _ _ _ _ _ _ _ _ _ _ _ _ _ _ ⟨rfl, bt_mkR R2⟩))))
          · exact br_f kd (toY _ (fun es2 se2 ey2 tn2 tm2 sn2 sc2 => br_t i0' ⟨ix.2.2.2.2.1, ix'.2.2.2.2.1, br_f kd ⟨rfl, bt_mkR R⟩⟩))
    · by_cases w : v4 < 0
      · exact Or.inl w
      · exact Or.inr ⟨w, fun y => q ⟨w, y⟩⟩
  · refine xx_isP0 hp0 (br_t rfl ?_)
    unfold wpY_bind
    exact yy_isPath0 rx dx (fun z => hp0 z.1) (fun es2 ey2 => br_t rfl ⟨rfl, bt_mkR R⟩)
end
section
/-- d cells from p on hold what stood one further -/
def bt_sh (f g : Nat → Int32) (base p d : Nat) : Prop := (∀ m, p ≤ m → m < p + d → g (base + m) = f (base + (m + 1))) ∧ (∀ x, (x < base + p ∨ base + p + d ≤ x) → g x = f x)
theorem bt_sh_0 {f : Nat → Int32} {base p : Nat} : bt_sh f f base p 0 := ⟨fun m h1 h2 => by omega, fun _ _ => rfl⟩
theorem bt_sh_s {f g : Nat → Int32} {base p d : Nat} (h : bt_sh f g base p d) : bt_sh f (upd g (base + (p + d)) (g (base + (p + d + 1)))) base p (d + 1) := by
  refine ⟨fun m h1 h2 => ?_, fun x hx => ?_⟩
  · by_cases w : m = p + d
    · rw [w, pk_us]; exact h.2 _ (by omega)
    · rw [pk_un (by omega)]; exact h.1 m h1 (by omega)
  · rw [pk_un (by omega)]; exact h.2 x (by omega)
theorem bt_sh_B {f g : Nat → Int32} {base p d : Nat} (h : bt_sh f g base p d) (hf : ∀ i, bt_B (f i)) : ∀ i, bt_B (g i) := by
  intro i
  by_cases z : i < base + p ∨ base + p + d ≤ i
  · rw [h.2 i z]; exact hf i
  · obtain ⟨m, rfl⟩ : ∃ m, i = base + m := ⟨i - base, by omega⟩
    rw [h.1 m (by omega) (by omega)]; exact hf _
section
variable {ls tl ec kc : Int32} {st dr nm pa ve sz it sm hl th sp tb dl dn cc cv mn mc oc on om op tr el cm : Nat → Int32} {es tt se fr : Int32} {sY tY dy dm vc ms me cr hd hN ps la ey tn tm sn sc fn fc : Nat → Int32} {s s' t t' : Nat → Nat} {mn2 mc2 me2 cr2 vc2 : Nat → Int32}
theorem xu_take_l {post : SX → Prop} {i c f : Nat} (hi : i < 24) (hc : c ≤ 5) (fc0 : f < c) (ec0 : cc i = nI c) (hB : ∀ x, bt_B (mc x))
    (h : ∀ mn2 mc2 : Nat → Int32, bt_sh mn mn2 (5 * i) f (c - 1 - f) → bt_sh mc mc2 (5 * i) f (c - 1 - f) → post (ls, tl, ec, kc, st, dr, nm, pa, ve, sz, it, sm, hl, th, sp, tb, dl, dn, upd cc i (nI (c - 1)), cv, mn2, mc2, oc, on, om, op, tr, el, cm)) :
    ∀ (e d n : Nat) (mn2 mc2 : Nat → Int32), f + 1 + d + e = c → e < n → bt_sh mn mn2 (5 * i) f d → bt_sh mc mc2 (5 * i) f d → wX_takeMemberOut_4 post (nI i) n (nI (f + 1 + d)) ls tl ec kc st dr nm pa ve sz it sm hl th sp tb dl dn cc cv mn2 mc2 oc on om op tr el cm := by
  have ix := bt_ix24 hi
  intro e
  induction e with
  | zero =>
    intro d n mn2 mc2 hd hn h1 h2
    obtain ⟨n, rfl⟩ : ∃ n', n = n' + 1 := ⟨n - 1, by omega⟩
    have ed : d = c - 1 - f := by omega
    subst ed
    refine ⟨ix.2.2.2.2.1, ?_⟩
    rw [ix.2.2.2.2.2.1, ec0, bt_s1 (by omega)]
    exact br_t (nI_le (by omega) (by omega)) ⟨ix.2.2.2.2.1, ix.2.2.2.2.1, nm_e (h mn2 mc2 h1 h2)⟩
  | succ e ih =>
    intro d n mn2 mc2 hd hn h1 h2
    obtain ⟨n, rfl⟩ : ∃ n', n = n' + 1 := ⟨n - 1, by omega⟩
    have iz := bt_ix120 (q := 5 * i + (f + d + 1)) (by omega)
    have e5 : nI i * 5 + nI (f + 1 + d) = nI (5 * i + (f + d + 1)) := by rw [bt_m5, nI_add]; exact congrArg nI (by omega)
    refine ⟨ix.2.2.2.2.1, ?_⟩
    rw [ix.2.2.2.2.2.1, ec0]
    refine br_f (nI_ge (by omega) (by omega)) (nm_r e5 ⟨iz.2.2.2.2.1, iz.2.2.2.2.1, ?_⟩)
    have es1 : nI (f + 1 + d) - 1 = nI (f + d) := by rw [bt_s1 (by omega)]; exact congrArg nI (by omega)
    rw [iz.2.2.2.2.2.1, es1]
    refine xx_put hi (by omega) (bt_sh_B h2 hB _) (nm_r (nI_1 _) ?_)
    exact ih (d + 1) n _ _ (by omega) (by omega) (bt_sh_s h1) (bt_sh_s h2)
theorem xu_take {post : SX → Prop} {i c f : Nat} (hi : i < 24) (hc : c ≤ 5) (fc0 : f < c) (ec0 : cc i = nI c) (hB : ∀ x, bt_B (mc x))
    (h : ∀ mn2 mc2 : Nat → Int32, bt_sh mn mn2 (5 * i) f (c - 1 - f) → bt_sh mc mc2 (5 * i) f (c - 1 - f) → post (ls, tl, ec, kc, st, dr, nm, pa, ve, sz, it, sm, hl, th, sp, tb, dl, dn, upd cc i (nI (c - 1)), cv, mn2, mc2, oc, on, om, op, tr, el, cm)) : wpX_takeMemberOut post (ls, tl, ec, kc, st, dr, nm, pa, ve, sz, it, sm, hl, th, sp, tb, dl, dn, cc, cv, mn, mc, oc, on, om, op, tr, el, cm) (nI i) (nI f) :=
  nm_r (nI_1 f) ⟨c + 1, xu_take_l hi hc fc0 ec0 hB h (c - 1 - f) 0 (c + 1) mn mc (by omega) (by omega) bt_sh_0 bt_sh_0⟩
/-- what Y does when the members are in place -/
theorem yu_176 {post : Int32 → SY → Prop} {j c1 f : Nat} (hj : j < 24) (hc : c1 ≤ 4) (hB : ∀ x, bt_B (cr x)) (em : ms j = nI c1)
    (h : ∀ me2 cr2 vc2 : Nat → Int32, bt_sh me me2 (5 * j) f (c1 - f) → bt_sh cr cr2 (5 * j) f (c1 - f) → (c1 = 0 → vc2 = upd vc j (-1)) → (¬ c1 = 0 → vc2 = vc) → wY_unmount_251 post (nI j) ls es tt se fr st nm pa ve sz sm it dr th sY tY dl dy dm vc2 ms me2 cr2 hd hN ps la ey tn tm sn sc fn fc) :
    ∀ (e d n : Nat) (me2 cr2 : Nat → Int32), e = c1 - (f + d) → (f + d ≤ c1 ∨ d = 0) → e < n → bt_sh me me2 (5 * j) f d → bt_sh cr cr2 (5 * j) f d → f ≤ 5 → wY_unmount_176 post (nI j) n (nI (f + d)) ls es tt se fr st nm pa ve sz sm it dr th sY tY dl dy dm vc ms me2 cr2 hd hN ps la ey tn tm sn sc fn fc := by
  have ix := bt_ix24 hj
  intro e
  induction e with
  | zero =>
    intro d n me2 cr2 he hfd hn h1 h2 f5
    obtain ⟨n, rfl⟩ : ∃ n', n = n' + 1 := ⟨n - 1, by omega⟩
    have ed : d = c1 - f := by omega
    refine ⟨ix.2.2.2.2.1, ?_⟩
    rw [ix.2.2.2.2.2.1, em]
    refine br_t (nI_le (by omega) (by omega)) ⟨ix.2.2.2.2.1, ek_if (bt_e0 (by omega)) (fun z => ⟨ix.2.2.2.2.1, nm_e (h me2 cr2 _ ?_ ?_ (fun _ => rfl) (fun y => absurd z y))⟩) (fun z => h me2 cr2 vc ?_ ?_ (fun y => absurd y z) (fun _ => rfl))⟩
    · rw [← ed]; exact h1
    · rw [← ed]; exact h2
    · rw [← ed]; exact h1
    · rw [← ed]; exact h2
  | succ e ih =>
    intro d n me2 cr2 he hfd hn h1 h2 f5
    obtain ⟨n, rfl⟩ : ∃ n', n = n' + 1 := ⟨n - 1, by omega⟩
    have iz := bt_ix120 (q := 5 * j + (f + d + 1)) (by omega)
    have e5 : 5 * nI j + nI (f + d) = nI (5 * j + (f + d)) := by rw [bt_5m, nI_add]
    have e6 : nI (5 * j + (f + d)) + 1 = nI (5 * j + (f + d + 1)) := nI_1 _
    refine ⟨ix.2.2.2.2.1, ?_⟩
    rw [ix.2.2.2.2.2.1, em, e5, e6, iz.2.2.2.2.2.1]
    refine br_f (nI_ge (by omega) (by omega)) ⟨iz.2.2.2.2.1, iz.2.2.2.2.1, yy_put (by omega) (bt_sh_B h2 hB _) (nm_r (nI_1 _) ?_)⟩
    exact ih (d + 1) n _ _ (by omega) (by omega) (by omega) (bt_sh_s h1) (bt_sh_s h2) f5
/-- a member is out -/
theorem bt_um {p k c f : Nat} (R : bt_R st dr nm pa sz th dl sp tb dn cc cv mn mc oc on om op sY tY dy dm vc ms me cr hd hN ps la s s' t t') (hp : p < 4) (hk : k < 6) (tp : th p ≠ 0) (fc0 : f < c) (c5 : c ≤ 5)
    (cvs : cv (6 * s p + k) = vc (6 * s' p + k)) (Ncv : bt_N st (cv (6 * s p + k))) (w5 : ∀ m, m < c → mn (5 * (6 * s p + k) + m) = me (5 * (6 * s' p + k) + m) ∧ mc (5 * (6 * s p + k) + m) = cr (5 * (6 * s' p + k) + m) ∧ bt_N st (mn (5 * (6 * s p + k) + m)))
    (x1 : bt_sh mn mn2 (5 * (6 * s p + k)) f (c - 1 - f)) (x2 : bt_sh mc mc2 (5 * (6 * s p + k)) f (c - 1 - f)) (y1 : bt_sh me me2 (5 * (6 * s' p + k)) f (c - 1 - f)) (y2 : bt_sh cr cr2 (5 * (6 * s' p + k)) f (c - 1 - f))
    (z0 : c - 1 = 0 → vc2 = upd vc (6 * s' p + k) (-1)) (z1 : ¬ c - 1 = 0 → vc2 = vc) :
    bt_R st dr nm pa sz th dl sp tb dn (upd cc (6 * s p + k) (nI (c - 1))) cv mn2 mc2 oc on om op sY tY dy dm vc2 (upd ms (6 * s' p + k) (nI (c - 1))) me2 cr2 hd hN ps la s s' t t' := by
  have vo : ∀ x, x ≠ 6 * s' p + k → vc2 x = vc x := by
    intro x hx
    by_cases z : c - 1 = 0
    · rw [z0 z, pk_un hx]
    · rw [z1 z]
  refine bt_upC (p := p) (k := k) R hp hk tp (fun x hx => ⟨pk_un hx, rfl⟩) (fun x hx => ⟨x1.2 x (by omega), x2.2 x (by omega)⟩) (fun x hx => ⟨vo x hx, pk_un hx⟩) (fun x hx => ⟨y1.2 x (by omega), y2.2 x (by omega)⟩) (bt_sh_B x2 R.2.1) (bt_sh_B y2 R.2.2.1) ?_
  by_cases z : c - 1 = 0
  · refine Or.inl ⟨?_, ?_⟩
    · rw [pk_us, z]; rfl
    · rw [z0 z, pk_us]
  · refine Or.inr ⟨c - 1, by omega, by omega, pk_us, pk_us, ?_, Ncv, fun m hm => ?_⟩
    · rw [z1 z]; exact cvs
    · by_cases w : m < f
      · rw [x1.2 _ (by omega), x2.2 _ (by omega), y1.2 _ (by omega), y2.2 _ (by omega)]; exact w5 m (by omega)
      · rw [x1.1 m (by omega) (by omega), x2.1 m (by omega) (by omega), y1.1 m (by omega) (by omega), y2.1 m (by omega) (by omega)]; exact w5 (m + 1) (by omega)
/-- Y seeks the member -/
theorem yu_94 {post : Int32 → SY → Prop} {j c : Nat} {x2 x4 : Int32} {P : Nat → Prop} [DecidablePred P] (hj : j < 24) (c5 : c ≤ 5) (em : ms j = nI c) (hP : ∀ m, m < c → (me (5 * j + m) = x4 ↔ P m)) :
    ∀ (e q n : Nat), q + e = c → e < n → (∀ f, bt_f P q e = some f → wY_unmount_129 post x2 (nI j) (nI f) ls es tt se fr st nm pa ve sz sm it dr th sY tY dl dy dm vc ms me cr hd hN ps la ey tn tm sn sc fn fc) → (bt_f P q e = none → wY_unmount_129 post x2 (nI j) (nI c) ls es tt se fr st nm pa ve sz sm it dr th sY tY dl dy dm vc ms me cr hd hN ps la ey tn tm sn sc fn fc) → wY_unmount_94 post x2 x4 (nI j) ls es tt se fr st nm pa ve sz sm it dr th sY tY dl dy dm vc ms me cr hd hN ps la ey tn tm sn sc fn fc n (nI q) := by
  have ix := bt_ix24 hj
  intro e
  induction e with
  | zero =>
    intro q n hq hn h1 h2
    obtain ⟨n, rfl⟩ : ∃ n', n = n' + 1 := ⟨n - 1, by omega⟩
    have : q = c := by omega
    subst this
    refine ⟨ix.2.2.2.2.1, br_t ?_ (h2 rfl)⟩
    rw [ix.2.2.2.2.2.1, em]; exact Int32.le_refl _
  | succ e ih =>
    intro q n hq hn h1 h2
    obtain ⟨n, rfl⟩ : ∃ n', n = n' + 1 := ⟨n - 1, by omega⟩
    have iz := bt_ix120 (q := 5 * j + q) (by omega)
    have e5 : 5 * nI j + nI q = nI (5 * j + q) := by rw [bt_5m, nI_add]
    simp only [bt_f] at h1 h2
    refine ⟨ix.2.2.2.2.1, ?_⟩
    rw [ix.2.2.2.2.2.1, em, e5, iz.2.2.2.2.2.1]
    refine br_f (nI_ge (by omega) (by omega)) ⟨iz.2.2.2.2.1, ek_if (hP q (by omega)) (fun z => h1 q (if_pos z)) (fun z => nm_r (nI_1 _) ?_)⟩
    rw [if_neg z] at h1 h2
    exact ih (q + 1) n (by omega) (by omega) h1 h2
end
theorem i_vc_unmount {k : Nat} {u : SX} {v : SY} (I : i_Rel k u v) (hk : k + 6 ≤ 3072) (v1 : Int32) (v2 : Int32) (v3 : Int32) : wpX_unmount (fun r u' => wpY_unmount (fun r' v' => r' = r ∧ i_Rel (k + 6) u' v') v v1 v2 v3) u v1 v2 v3 := by
  obtain ⟨ls, tl, ec, kc, es, tt, se, fr, st, dr, nm, pa, ve, sz, it, sm, hl, th, sp, tb, dl, dn, cc, cv, mn, mc, oc, on, om, op, tr, el, cm, sY, tY, dy, dm, vc, ms, me, cr, hd, hN, ps, la, ey, tn, tm, sn, sc, fn, fc, s, s', t, t', rfl, rfl, R⟩ := I
  obtain ⟨m, D, rx, dx⟩ := bt_xd v2
  obtain ⟨m', D', rx', dx'⟩ := bt_xd v3
  have J := R
  obtain ⟨RA, B1, B2, RS, RT, RP⟩ := J
  unfold wpX_unmount
  by_cases hp0 : (∃ q, q < 4 ∧ v1 = nI q ∧ th q ≠ 0) ∧ bt_g m' D'
  · obtain ⟨⟨p, hp, rfl, tp⟩, gx'⟩ := hp0
    have ip := bt_ix4 hp
    obtain ⟨hT, hC, hD⟩ := RP p hp tp
    obtain ⟨sa, ha, sb, hb4⟩ := RS.1 p hp
    by_cases all : v2 = 1073741824
    · -- all members
      obtain ⟨r, L', tr', el2, an, hT2, fX, fY⟩ := ev_R (ls := ls) (tl := tl) (ec := ec) (kc := kc) (st := st) (dr := dr) (nm := nm) (pa := pa) (ve := ve) (sz := sz) (it := it) (sm := sm) (hl := hl) (th := th) (sp := sp) (tb := tb) (dl := dl) (dn := dn) (cc := cc) (cv := cv) (mn := mn) (mc := mc) (oc := oc) (on := on) (om := om) (op := op) (tr := tr) (el := el) (cm := cm) R hp tp rx' dx' gx'
      have toY : ∀ post : Int32 → SY → Prop, (∀ (es2 se2 : Int32) (ey2 tn2 tm2 sn2 sc2 : Nat → Int32), ((0 ≤ r → (vp_in (nI p) 4 ∧ (wpY_coverOf (fun r_112 => ((0 ≤ r_112 → ∃ n94, wY_unmount_94 post v2 0 r_112 ls es2 (nI L') se2 fr st nm pa ve sz sm it dr th sY tY dl dy dm vc ms me cr hd hN ps la ey2 tn2 tm2 sn2 sc2 fn fc n94 0) ∧ (¬ 0 ≤ r_112 → post (-10) (ls, es2, nI L', se2, fr, st, nm, pa, ve, sz, sm, it, dr, th, sY, tY, dl, dy, dm, vc, ms, me, cr, hd, hN, ps, la, ey2, tn2, tm2, sn2, sc2, fn, fc)))) (ls, es2, nI L', se2, fr, st, nm, pa, ve, sz, sm, it, dr, th, sY, tY, dl, dy, dm, vc, ms, me, cr, hd, hN, ps, la, ey2, tn2, tm2, sn2, sc2, fn, fc) (nI (s' p)) r))) ∧ (¬ 0 ≤ r → post r (ls, es2, nI L', se2, fr, st, nm, pa, ve, sz, sm, it, dr, th, sY, tY, dl, dy, dm, vc, ms, me, cr, hd, hN, ps, la, ey2, tn2, tm2, sn2, sc2, fn, fc)))) → wpY_unmount post (ls, es, tt, se, fr, st, nm, pa, ve, sz, sm, it, dr, th, sY, tY, dl, dy, dm, vc, ms, me, cr, hd, hN, ps, la, ey, tn, tm, sn, sc, fn, fc) (nI p) v2 v3 := by
        intro post h
        unfold wpY_unmount
        refine yy_isPath1 hp tp rx' dx' gx' (fun ey2 _ => br_f (by decide) (br_t all (br_t all (br_t (by decide) (fY _ _ _ _ _ _ _ _ _ _ _ _ (fun es2 se2 ey3 tn2 tm2 sn2 sc2 ht => ?_))))))
        have hh := h es2 se2 ey3 tn2 tm2 sn2 sc2
        have eb : sY (nI p).toNatClampNeg = nI (s' p) := by rw [ip.2.2.2.2.2.1]; exact sb
        rw [← eb] at hh
        exact hh
      refine br_t all ?_
      unfold wX_unmount_11
      refine xx_isP1 hp tp (br_f (by decide) (xx_path rx' dx' (fun _ => br_f (by decide) (br_f (by decide) (br_f (by decide) (br_f (by decide) ?_)))) (fun z => absurd gx' z)))
      unfold wX_unmount_72
      refine fX _ ?_
      rcases bt_an2 an with ng | ⟨n, hn, rfl, zn, _⟩
      · exact br_f ng (toY _ (fun es2 se2 ey2 tn2 tm2 sn2 sc2 => br_f ng ⟨rfl, bt_mkR R⟩))
      · have i0 : (0 : Int32) ≤ nI n := nI_pos' (by omega)
        have Nn : bt_N st (nI n) := ⟨n, hn, rfl, zn⟩
        obtain ⟨c, c1, c5, hv, hNs, hv0, hS⟩ := bt_view hC Nn
        refine br_t i0 ⟨ip.2.2.2.2.1, ?_⟩
        rw [ip.2.2.2.2.2.1, sa]
        refine xx_coverOf ha (bt_Cc hC) ?_
        cases oo : bt_cf cc cv (s p) (nI n) with
        | none =>
          refine br_t rfl (toY _ (fun es2 se2 ey2 tn2 tm2 sn2 sc2 => br_t i0 ⟨ip.2.2.2.2.1, yy_coverOf hb4 hC (bt_Nx Nn) ?_⟩))
          rw [oo]
          exact br_f (show ¬ (0 : Int32) ≤ -1 by decide) ⟨rfl, bt_mkR R⟩
        | some k6 =>
          obtain ⟨k6l, w1, w2, w3, w4, w5⟩ := hS k6 oo
          have jk := bt_ix24 (q := 6 * s p + k6) (by omega)
          have jk' := bt_ix24 (q := 6 * s' p + k6) (by omega)
          have R' : bt_R st dr nm pa sz th dl sp tb dn (upd cc (6 * s p + k6) 0) cv mn mc oc on om op sY tY dy dm (upd vc (6 * s' p + k6) (-1)) (upd ms (6 * s' p + k6) 0) me cr hd hN ps la s s' t t' :=
            bt_upC (p := p) (k := k6) R hp k6l tp (fun x hx => ⟨pk_un hx, rfl⟩) (fun _ _ => ⟨rfl, rfl⟩) (fun x hx => ⟨pk_un hx, pk_un hx⟩) (fun _ _ => ⟨rfl, rfl⟩) B1 B2 (Or.inl ⟨pk_us, pk_us⟩)
          refine br_f jk.2.2.2.2.2.2 (br_f (by decide) ⟨jk.2.2.2.2.1, nm_r (show _ = upd cc (6 * s p + k6) 0 from congrArg (fun z => upd cc z 0) jk.2.2.2.2.2.1) ?_⟩)
          unfold wX_unmount_154
          refine xx_sw (bt_wf_R R') (fun st2 hl2 sw => ⟨jk.2.2.2.2.1, ?_⟩)
          show wpY_unmount (fun r' v' => r' = upd cc (6 * s p + k6) 0 (nI (6 * s p + k6)).toNatClampNeg ∧ i_Rel (k + 6) (ls, nI L', nI D', kc, st2, dr, nm, pa, ve, sz, it, sm, hl2, th, sp, tb, dl, dn, upd cc (6 * s p + k6) 0, cv, mn, mc, oc, on, om, op, tr', el2, cm) v') (ls, es, tt, se, fr, st, nm, pa, ve, sz, sm, it, dr, th, sY, tY, dl, dy, dm, vc, ms, me, cr, hd, hN, ps, la, ey, tn, tm, sn, sc, fn, fc) (nI p) v2 v3
          rw [jk.2.2.2.2.2.1, pk_us]
          have fin : ∀ (q : Nat) (es2 se2 : Int32) (ey2 tn2 tm2 sn2 sc2 : Nat → Int32), q ≤ 5 → wY_unmount_129 (fun r' v' => r' = 0 ∧ i_Rel (k + 6) (ls, nI L', nI D', kc, st2, dr, nm, pa, ve, sz, it, sm, hl2, th, sp, tb, dl, dn, upd cc (6 * s p + k6) 0, cv, mn, mc, oc, on, om, op, tr', el2, cm) v') v2 (nI (6 * s' p + k6)) (nI q) ls es2 (nI L') se2 fr st nm pa ve sz sm it dr th sY tY dl dy dm vc ms me cr hd hN ps la ey2 tn2 tm2 sn2 sc2 fn fc := by
            intro q es2 se2 ey2 tn2 tm2 sn2 sc2 q5
            refine br_t all (br_t all ⟨jk'.2.2.2.2.1, nm_r (show _ = upd ms (6 * s' p + k6) (nI 0) from congrArg (fun z => upd ms z 0) jk'.2.2.2.2.2.1) ⟨1, ?_⟩⟩)
            refine yu_176 (c1 := 0) (f := q) (by omega) (by omega) B2 pk_us (fun me2 cr2 vc2 a1 a2 a3 a4 => ?_) 0 0 1 me cr (by omega) (Or.inr rfl) (by omega) bt_sh_0 bt_sh_0 q5
            have e1 : me2 = me := funext fun x => a1.2 x (by omega)
            have e2 : cr2 = cr := funext fun x => a2.2 x (by omega)
            have e3 := a3 rfl
            subst e1 e2 e3
            unfold wY_unmount_251
            refine yy_sw R' (fun st3 sw3 => ⟨jk'.2.2.2.2.1, ?_⟩)
            have := bt_sw_u sw3 sw
            subst this
            refine ⟨?_, bt_mkR (bt_upSw R' sw)⟩
            rw [jk'.2.2.2.2.2.1, pk_us]; rfl
          refine toY _ (fun es2 se2 ey2 tn2 tm2 sn2 sc2 => br_t i0 ⟨ip.2.2.2.2.1, yy_coverOf hb4 hC (bt_Nx Nn) ?_⟩)
          rw [oo]
          refine br_t jk'.2.1 ⟨c + 1, yu_94 (P := fun m => me (5 * (6 * s' p + k6) + m) = 0) (by omega) c5 w2 (fun m _ => Iff.rfl) c 0 (c + 1) (by omega) (by omega) (fun f hf => fin f _ _ _ _ _ _ _ ?_) (fun _ => fin c _ _ _ _ _ _ _ c5)⟩
          have := bt_f_s c 0 hf
          omega
    · -- one member
      by_cases gx : bt_g m D
      · obtain ⟨r, L', tr', el2, an, hT2, fX, fY⟩ := ev_R (ls := ls) (tl := tl) (ec := ec) (kc := kc) (st := st) (dr := dr) (nm := nm) (pa := pa) (ve := ve) (sz := sz) (it := it) (sm := sm) (hl := hl) (th := th) (sp := sp) (tb := tb) (dl := dl) (dn := dn) (cc := cc) (cv := cv) (mn := mn) (mc := mc) (oc := oc) (on := on) (om := om) (op := op) (tr := tr) (el := el) (cm := cm) R hp tp rx dx gx
        obtain ⟨r', L2, tr2, el3, an', hT2', fX', fY'⟩ := ev_R (ls := ls) (tl := nI L') (ec := nI D) (kc := kc) (st := st) (dr := dr) (nm := nm) (pa := pa) (ve := ve) (sz := sz) (it := it) (sm := sm) (hl := hl) (th := th) (sp := sp) (tb := tb) (dl := dl) (dn := dn) (cc := cc) (cv := cv) (mn := mn) (mc := mc) (oc := oc) (on := on) (om := om) (op := op) (tr := tr') (el := el2) (cm := cm) R hp tp rx' dx' gx'
        have toY : ∀ post : Int32 → SY → Prop, (¬ 0 ≤ r → ∀ (es2 se2 : Int32) (ey2 tn2 tm2 sn2 sc2 : Nat → Int32), post r (ls, es2, nI L', se2, fr, st, nm, pa, ve, sz, sm, it, dr, th, sY, tY, dl, dy, dm, vc, ms, me, cr, hd, hN, ps, la, ey2, tn2, tm2, sn2, sc2, fn, fc)) → (0 ≤ r → ∀ (es2 se2 : Int32) (ey2 tn2 tm2 sn2 sc2 : Nat → Int32), ((0 ≤ r' → (vp_in (nI p) 4 ∧ (wpY_coverOf (fun r_112 => ((0 ≤ r_112 → ∃ n94, wY_unmount_94 post v2 r r_112 ls es2 (nI L2) se2 fr st nm pa ve sz sm it dr th sY tY dl dy dm vc ms me cr hd hN ps la ey2 tn2 tm2 sn2 sc2 fn fc n94 0) ∧ (¬ 0 ≤ r_112 → post (-10) (ls, es2, nI L2, se2, fr, st, nm, pa, ve, sz, sm, it, dr, th, sY, tY, dl, dy, dm, vc, ms, me, cr, hd, hN, ps, la, ey2, tn2, tm2, sn2, sc2, fn, fc)))) (ls, es2, nI L2, se2, fr, st, nm, pa, ve, sz, sm, it, dr, th, sY, tY, dl, dy, dm, vc, ms, me, cr, hd, hN, ps, la, ey2, tn2, tm2, sn2, sc2, fn, fc) (nI (s' p)) r'))) ∧ (¬ 0 ≤ r' → post r' (ls, es2, nI L2, se2, fr, st, nm, pa, ve, sz, sm, it, dr, th, sY, tY, dl, dy, dm, vc, ms, me, cr, hd, hN, ps, la, ey2, tn2, tm2, sn2, sc2, fn, fc)))) → wpY_unmount post (ls, es, tt, se, fr, st, nm, pa, ve, sz, sm, it, dr, th, sY, tY, dl, dy, dm, vc, ms, me, cr, hd, hN, ps, la, ey, tn, tm, sn, sc, fn, fc) (nI p) v2 v3 := by
          intro post hng h
          unfold wpY_unmount
          refine yy_isPath1 hp tp rx' dx' gx' (fun ey2 _ => br_f (by decide) (br_f all (yy_split rx dx (fun _ ey3 _ => br_f (by decide) (br_f all (fY _ _ _ _ _ _ _ _ _ _ _ _ (fun es2 se2 ey4 tn2 tm2 sn2 sc2 ht => br_c (fun z => fY' _ _ _ _ _ _ _ _ _ _ _ _ (fun es3 se3 ey5 tn3 tm3 sn3 sc3 ht' => ?_)) (fun z => hng z _ _ _ _ _ _ _))))) (fun z => absurd gx z))))
          have hh := h z es3 se3 ey5 tn3 tm3 sn3 sc3
          have eb : sY (nI p).toNatClampNeg = nI (s' p) := by rw [ip.2.2.2.2.2.1]; exact sb
          rw [← eb] at hh
          exact hh
        refine br_f all ?_
        unfold wX_unmount_11
        refine xx_isP1 hp tp (br_f (by decide) (xx_path rx' dx' (fun _ => br_f (by decide) (br_t rfl (xx_path rx dx (fun _ => br_f (by decide) (br_t rfl (fX _ (br_t rfl ?_)))) (fun z => absurd gx z)))) (fun z => absurd gx' z)))
        rcases bt_an2 an with ng | ⟨nf, hnf, rfl, znf, _⟩
        · exact br_f ng (toY _ (fun _ es2 se2 ey2 tn2 tm2 sn2 sc2 => ⟨rfl, bt_mkR R⟩) (fun z => absurd z ng))
        · have j0 : (0 : Int32) ≤ nI nf := nI_pos' (by omega)
          refine br_t j0 ?_
          unfold wX_unmount_72
          refine fX' _ ?_
          rcases bt_an2 an' with ng | ⟨n, hn, rfl, zn, _⟩
          · exact br_f ng (toY _ (fun z => absurd j0 z) (fun _ es2 se2 ey2 tn2 tm2 sn2 sc2 => br_f ng ⟨rfl, bt_mkR R⟩))
          · have i0 : (0 : Int32) ≤ nI n := nI_pos' (by omega)
            have Nn : bt_N st (nI n) := ⟨n, hn, rfl, zn⟩
            obtain ⟨c, c1, c5, hv, hNs, hv0, hS⟩ := bt_view hC Nn
            refine br_t i0 ⟨ip.2.2.2.2.1, ?_⟩
            rw [ip.2.2.2.2.2.1, sa]
            refine xx_coverOf ha (bt_Cc hC) ?_
            cases oo : bt_cf cc cv (s p) (nI n) with
            | none =>
              refine br_t rfl (toY _ (fun z => absurd j0 z) (fun _ es2 se2 ey2 tn2 tm2 sn2 sc2 => br_t i0 ⟨ip.2.2.2.2.1, yy_coverOf hb4 hC (bt_Nx Nn) ?_⟩))
              rw [oo]
              exact br_f (show ¬ (0 : Int32) ≤ -1 by decide) ⟨rfl, bt_mkR R⟩
            | some k6 =>
              obtain ⟨k6l, w1, w2, w3, w4, w5⟩ := hS k6 oo
              have jk := bt_ix24 (q := 6 * s p + k6) (by omega)
              have jk' := bt_ix24 (q := 6 * s' p + k6) (by omega)
              refine br_f jk.2.2.2.2.2.2 (br_t rfl (xx_mix (by omega) c5 w1 ?_))
              have toY2 : ∀ post : Int32 → SY → Prop, (∀ (es2 se2 : Int32) (ey2 tn2 tm2 sn2 sc2 : Nat → Int32), (∀ f, bt_f (fun m => mn (5 * (6 * s p + k6) + m) = nI nf) 0 c = some f → wY_unmount_129 post v2 (nI (6 * s' p + k6)) (nI f) ls es2 (nI L2) se2 fr st nm pa ve sz sm it dr th sY tY dl dy dm vc ms me cr hd hN ps la ey2 tn2 tm2 sn2 sc2 fn fc) ∧ (bt_f (fun m => mn (5 * (6 * s p + k6) + m) = nI nf) 0 c = none → wY_unmount_129 post v2 (nI (6 * s' p + k6)) (nI c) ls es2 (nI L2) se2 fr st nm pa ve sz sm it dr th sY tY dl dy dm vc ms me cr hd hN ps la ey2 tn2 tm2 sn2 sc2 fn fc)) → wpY_unmount post (ls, es, tt, se, fr, st, nm, pa, ve, sz, sm, it, dr, th, sY, tY, dl, dy, dm, vc, ms, me, cr, hd, hN, ps, la, ey, tn, tm, sn, sc, fn, fc) (nI p) v2 v3 := by
                intro post h
                refine toY _ (fun z => absurd j0 z) (fun _ es2 se2 ey2 tn2 tm2 sn2 sc2 => br_t i0 ⟨ip.2.2.2.2.1, yy_coverOf hb4 hC (bt_Nx Nn) ?_⟩)
                rw [oo]
                exact br_t jk'.2.1 ⟨c + 1, yu_94 (by omega) c5 w2 (fun m hm => by rw [(w5 m hm).1]) c 0 (c + 1) (by omega) (by omega) (h _ _ _ _ _ _ _).1 (h _ _ _ _ _ _ _).2⟩
              cases mf : bt_f (fun m => mn (5 * (6 * s p + k6) + m) = nI nf) 0 c with
              | none =>
                rw [mf] at toY2
                refine br_t rfl (toY2 _ (fun es2 se2 ey2 tn2 tm2 sn2 sc2 => ⟨fun f hf => (by cases hf), fun _ => br_f all ⟨jk'.2.2.2.2.1, br_t ?_ ⟨rfl, bt_mkR R⟩⟩⟩))
                rw [jk'.2.2.2.2.2.1, w2]
              | some f =>
                obtain ⟨_, fc0, _, _⟩ := bt_f_s c 0 mf
                have fc1 : f < c := by omega
                have jf := bt_ix5 (q := f) (by omega)
                rw [mf] at toY2
                refine br_f jf.2.2.2.2.2.2 (xu_take (by omega) c5 fc1 w1 B1 (fun mn2 mc2 x1 x2 => ?_))
                unfold wX_unmount_154
                have Ncv : bt_N st (cv (6 * s p + k6)) := by rw [w3]; exact Nn
                have wfX : bt_wf th dl sp tb dn (upd cc (6 * s p + k6) (nI (c - 1))) cv mn2 oc on s t := by
                  refine bt_wf_C (p := p) (k := k6) (bt_wf_R R) k6l (fun x hx => ⟨pk_un hx, rfl⟩) (fun x hx => x1.2 x (by omega)) ?_
                  by_cases z : c - 1 = 0
                  · exact Or.inl (by rw [pk_us, z]; rfl)
                  · refine Or.inr ⟨c - 1, by omega, by omega, pk_us, ⟨n, hn, w3⟩, fun m hm => ?_⟩
                    by_cases w : m < f
                    · rw [x1.2 _ (by omega)]
                      obtain ⟨_, _, n2, h1, h2, _⟩ := w5 m (by omega)
                      exact ⟨n2, h1, h2⟩
                    · rw [x1.1 m (by omega) (by omega)]
                      obtain ⟨_, _, n2, h1, h2, _⟩ := w5 (m + 1) (by omega)
                      exact ⟨n2, h1, h2⟩
                refine xx_sw wfX (fun st2 hl2 sw => ⟨jk.2.2.2.2.1, ?_⟩)
                show wpY_unmount (fun r' v' => r' = upd cc (6 * s p + k6) (nI (c - 1)) (nI (6 * s p + k6)).toNatClampNeg ∧ i_Rel (k + 6) (ls, nI L2, nI D', kc, st2, dr, nm, pa, ve, sz, it, sm, hl2, th, sp, tb, dl, dn, upd cc (6 * s p + k6) (nI (c - 1)), cv, mn2, mc2, oc, on, om, op, tr2, el3, cm) v') (ls, es, tt, se, fr, st, nm, pa, ve, sz, sm, it, dr, th, sY, tY, dl, dy, dm, vc, ms, me, cr, hd, hN, ps, la, ey, tn, tm, sn, sc, fn, fc) (nI p) v2 v3
                rw [jk.2.2.2.2.2.1, pk_us]
                refine toY2 _ (fun es2 se2 ey2 tn2 tm2 sn2 sc2 => ⟨fun f' hf' => ?_, fun z => (by cases z)⟩)
                have ef : f' = f := by cases hf'; rfl
                subst ef
                refine br_f all ⟨jk'.2.2.2.2.1, br_f ?_ (br_f all ⟨jk'.2.2.2.2.1, jk'.2.2.2.2.1, nm_r (show _ = upd ms (6 * s' p + k6) (nI (c - 1)) from ?_) ⟨c + 1, ?_⟩⟩)⟩
                · rw [jk'.2.2.2.2.2.1, w2]
                  exact fun z => by have := bt_inj (by omega) (by omega) z; omega
                · rw [jk'.2.2.2.2.2.1, w2, bt_s1 (by omega)]
                · refine yu_176 (c1 := c - 1) (f := f') (by omega) (by omega) B2 pk_us (fun me2 cr2 vc2 y1 y2 z0 z1 => ?_) (c - 1 - f') 0 (c + 1) me cr (by omega) (Or.inr rfl) (by omega) bt_sh_0 bt_sh_0 (by omega)
                  have R' := bt_um (k := k6) R hp k6l tp fc1 c5 (w3.trans w4.symm) Ncv w5 x1 x2 y1 y2 z0 z1
                  unfold wY_unmount_251
                  refine yy_sw R' (fun st3 sw3 => ⟨jk'.2.2.2.2.1, ?_⟩)
                  have := bt_sw_u sw3 sw
                  subst this
                  refine ⟨?_, bt_mkR (bt_upSw R' sw)⟩
                  rw [jk'.2.2.2.2.2.1, pk_us]
      · refine br_f all ?_
        unfold wX_unmount_11
        refine xx_isP1 hp tp (br_f (by decide) (xx_path rx' dx' (fun _ => br_f (by decide) (br_t rfl (xx_path rx dx (fun z => absurd z gx) (fun _ => br_t rfl ?_)))) (fun z => absurd gx' z)))
        unfold wpY_unmount
        exact yy_isPath1 hp tp rx' dx' gx' (fun ey2 _ => br_f (by decide) (br_f all (yy_split rx dx (fun z => absurd z gx) (fun _ ey3 => br_t rfl ⟨rfl, bt_mkR R⟩))))
  · have Yr : wpY_unmount (fun r' v' => r' = -1 ∧ i_Rel (k + 6) (ls, tl, ec, kc, st, dr, nm, pa, ve, sz, it, sm, hl, th, sp, tb, dl, dn, cc, cv, mn, mc, oc, on, om, op, tr, el, cm) v') (ls, es, tt, se, fr, st, nm, pa, ve, sz, sm, it, dr, th, sY, tY, dl, dy, dm, vc, ms, me, cr, hd, hN, ps, la, ey, tn, tm, sn, sc, fn, fc) v1 v2 v3 := by
      unfold wpY_unmount
      exact yy_isPath0 rx' dx' hp0 (fun es2 ey2 => br_t rfl ⟨rfl, bt_mkR R⟩)
    have X11 : ∀ z0 : Int32, wX_unmount_11 (fun r u' => wpY_unmount (fun r' v' => r' = r ∧ i_Rel (k + 6) u' v') (ls, es, tt, se, fr, st, nm, pa, ve, sz, sm, it, dr, th, sY, tY, dl, dy, dm, vc, ms, me, cr, hd, hN, ps, la, ey, tn, tm, sn, sc, fn, fc) v1 v2 v3) v1 v2 v3 z0 ls tl ec kc st dr nm pa ve sz it sm hl th sp tb dl dn cc cv mn mc oc on om op tr el cm := by
      intro z0
      unfold wX_unmount_11
      by_cases hp1 : ∃ q, q < 4 ∧ v1 = nI q ∧ th q ≠ 0
      · obtain ⟨p, hp, rfl, tp⟩ := hp1
        exact xx_isP1 hp tp (br_f (by decide) (xx_path rx' dx' (fun g => absurd ⟨⟨p, hp, rfl, tp⟩, g⟩ hp0) (fun _ => br_t rfl Yr)))
      · exact xx_isP0 hp1 (br_t rfl Yr)
    exact br_c (fun _ => X11 1) (fun _ => X11 0)
end
