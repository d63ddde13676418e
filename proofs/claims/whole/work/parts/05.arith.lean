theorem bt_ix4 {q : Nat} (h : q < 4) : ¬ nI q < 0 ∧ 0 ≤ nI q ∧ nI q < 4 ∧ ¬ (4 : Int32) ≤ nI q ∧ vp_in (nI q) 4 ∧ (nI q).toNatClampNeg = q ∧ ¬ nI q = -1 :=
  ⟨nI_pos (by omega), nI_pos' (by omega), nI_lt (b := 4) h (by decide), nI_ge (b := 4) h (by decide), vp_in_nI h (by decide), nI_clamp (by omega), bt_neg (by omega)⟩
theorem bt_ix5 {q : Nat} (h : q < 5) : ¬ nI q < 0 ∧ 0 ≤ nI q ∧ nI q < 5 ∧ ¬ (5 : Int32) ≤ nI q ∧ vp_in (nI q) 5 ∧ (nI q).toNatClampNeg = q ∧ ¬ nI q = -1 :=
  ⟨nI_pos (by omega), nI_pos' (by omega), nI_lt (b := 5) h (by decide), nI_ge (b := 5) h (by decide), vp_in_nI h (by decide), nI_clamp (by omega), bt_neg (by omega)⟩
theorem bt_ix6 {q : Nat} (h : q < 6) : ¬ nI q < 0 ∧ 0 ≤ nI q ∧ nI q < 6 ∧ ¬ (6 : Int32) ≤ nI q ∧ vp_in (nI q) 6 ∧ (nI q).toNatClampNeg = q ∧ ¬ nI q = -1 :=
  ⟨nI_pos (by omega), nI_pos' (by omega), nI_lt (b := 6) h (by decide), nI_ge (b := 6) h (by decide), vp_in_nI h (by decide), nI_clamp (by omega), bt_neg (by omega)⟩
theorem bt_ix7 {q : Nat} (h : q < 7) : ¬ nI q < 0 ∧ 0 ≤ nI q ∧ nI q < 7 ∧ ¬ (7 : Int32) ≤ nI q ∧ vp_in (nI q) 7 ∧ (nI q).toNatClampNeg = q ∧ ¬ nI q = -1 :=
  ⟨nI_pos (by omega), nI_pos' (by omega), nI_lt (b := 7) h (by decide), nI_ge (b := 7) h (by decide), vp_in_nI h (by decide), nI_clamp (by omega), bt_neg (by omega)⟩
theorem bt_ix11 {q : Nat} (h : q < 11) : ¬ nI q < 0 ∧ 0 ≤ nI q ∧ nI q < 11 ∧ ¬ (11 : Int32) ≤ nI q ∧ vp_in (nI q) 11 ∧ (nI q).toNatClampNeg = q ∧ ¬ nI q = -1 :=
  ⟨nI_pos (by omega), nI_pos' (by omega), nI_lt (b := 11) h (by decide), nI_ge (b := 11) h (by decide), vp_in_nI h (by decide), nI_clamp (by omega), bt_neg (by omega)⟩
theorem bt_ix16 {q : Nat} (h : q < 16) : ¬ nI q < 0 ∧ 0 ≤ nI q ∧ nI q < 16 ∧ ¬ (16 : Int32) ≤ nI q ∧ vp_in (nI q) 16 ∧ (nI q).toNatClampNeg = q ∧ ¬ nI q = -1 :=
  ⟨nI_pos (by omega), nI_pos' (by omega), nI_lt (b := 16) h (by decide), nI_ge (b := 16) h (by decide), vp_in_nI h (by decide), nI_clamp (by omega), bt_neg (by omega)⟩
theorem bt_ix24 {q : Nat} (h : q < 24) : ¬ nI q < 0 ∧ 0 ≤ nI q ∧ nI q < 24 ∧ ¬ (24 : Int32) ≤ nI q ∧ vp_in (nI q) 24 ∧ (nI q).toNatClampNeg = q ∧ ¬ nI q = -1 :=
  ⟨nI_pos (by omega), nI_pos' (by omega), nI_lt (b := 24) h (by decide), nI_ge (b := 24) h (by decide), vp_in_nI h (by decide), nI_clamp (by omega), bt_neg (by omega)⟩
theorem bt_ix28 {q : Nat} (h : q < 28) : ¬ nI q < 0 ∧ 0 ≤ nI q ∧ nI q < 28 ∧ ¬ (28 : Int32) ≤ nI q ∧ vp_in (nI q) 28 ∧ (nI q).toNatClampNeg = q ∧ ¬ nI q = -1 :=
  ⟨nI_pos (by omega), nI_pos' (by omega), nI_lt (b := 28) h (by decide), nI_ge (b := 28) h (by decide), vp_in_nI h (by decide), nI_clamp (by omega), bt_neg (by omega)⟩
theorem bt_ix48 {q : Nat} (h : q < 48) : ¬ nI q < 0 ∧ 0 ≤ nI q ∧ nI q < 48 ∧ ¬ (48 : Int32) ≤ nI q ∧ vp_in (nI q) 48 ∧ (nI q).toNatClampNeg = q ∧ ¬ nI q = -1 :=
  ⟨nI_pos (by omega), nI_pos' (by omega), nI_lt (b := 48) h (by decide), nI_ge (b := 48) h (by decide), vp_in_nI h (by decide), nI_clamp (by omega), bt_neg (by omega)⟩
theorem bt_ix80 {q : Nat} (h : q < 80) : ¬ nI q < 0 ∧ 0 ≤ nI q ∧ nI q < 80 ∧ ¬ (80 : Int32) ≤ nI q ∧ vp_in (nI q) 80 ∧ (nI q).toNatClampNeg = q ∧ ¬ nI q = -1 :=
  ⟨nI_pos (by omega), nI_pos' (by omega), nI_lt (b := 80) h (by decide), nI_ge (b := 80) h (by decide), vp_in_nI h (by decide), nI_clamp (by omega), bt_neg (by omega)⟩
theorem bt_ix120 {q : Nat} (h : q < 120) : ¬ nI q < 0 ∧ 0 ≤ nI q ∧ nI q < 120 ∧ ¬ (120 : Int32) ≤ nI q ∧ vp_in (nI q) 120 ∧ (nI q).toNatClampNeg = q ∧ ¬ nI q = -1 :=
  ⟨nI_pos (by omega), nI_pos' (by omega), nI_lt (b := 120) h (by decide), nI_ge (b := 120) h (by decide), vp_in_nI h (by decide), nI_clamp (by omega), bt_neg (by omega)⟩
theorem bt_ix288 {q : Nat} (h : q < 288) : ¬ nI q < 0 ∧ 0 ≤ nI q ∧ nI q < 288 ∧ ¬ (288 : Int32) ≤ nI q ∧ vp_in (nI q) 288 ∧ (nI q).toNatClampNeg = q ∧ ¬ nI q = -1 :=
  ⟨nI_pos (by omega), nI_pos' (by omega), nI_lt (b := 288) h (by decide), nI_ge (b := 288) h (by decide), vp_in_nI h (by decide), nI_clamp (by omega), bt_neg (by omega)⟩
theorem bt_m3 (p : Nat) : nI p * 3 = nI (3 * p) := by
  rw [show (3 : Int32) = nI 3 from rfl, pk_mul, Nat.mul_comm]
theorem bt_3m (p : Nat) : 3 * nI p = nI (3 * p) := by
  rw [show (3 : Int32) = nI 3 from rfl, pk_mul]
theorem bt_m4 (p : Nat) : nI p * 4 = nI (4 * p) := by
  rw [show (4 : Int32) = nI 4 from rfl, pk_mul, Nat.mul_comm]
theorem bt_4m (p : Nat) : 4 * nI p = nI (4 * p) := by
  rw [show (4 : Int32) = nI 4 from rfl, pk_mul]
theorem bt_m5 (p : Nat) : nI p * 5 = nI (5 * p) := by
  rw [show (5 : Int32) = nI 5 from rfl, pk_mul, Nat.mul_comm]
theorem bt_5m (p : Nat) : 5 * nI p = nI (5 * p) := by
  rw [show (5 : Int32) = nI 5 from rfl, pk_mul]
theorem bt_m6 (p : Nat) : nI p * 6 = nI (6 * p) := by
  rw [show (6 : Int32) = nI 6 from rfl, pk_mul, Nat.mul_comm]
theorem bt_6m (p : Nat) : 6 * nI p = nI (6 * p) := by
  rw [show (6 : Int32) = nI 6 from rfl, pk_mul]
theorem bt_m7 (p : Nat) : nI p * 7 = nI (7 * p) := by
  rw [show (7 : Int32) = nI 7 from rfl, pk_mul, Nat.mul_comm]
theorem bt_7m (p : Nat) : 7 * nI p = nI (7 * p) := by
  rw [show (7 : Int32) = nI 7 from rfl, pk_mul]
theorem bt_m11 (p : Nat) : nI p * 11 = nI (11 * p) := by
  rw [show (11 : Int32) = nI 11 from rfl, pk_mul, Nat.mul_comm]
theorem bt_11m (p : Nat) : 11 * nI p = nI (11 * p) := by
  rw [show (11 : Int32) = nI 11 from rfl, pk_mul]
theorem bt_m20 (p : Nat) : nI p * 20 = nI (20 * p) := by
  rw [show (20 : Int32) = nI 20 from rfl, pk_mul, Nat.mul_comm]
theorem bt_20m (p : Nat) : 20 * nI p = nI (20 * p) := by
  rw [show (20 : Int32) = nI 20 from rfl, pk_mul]
theorem bt_m30 (p : Nat) : nI p * 30 = nI (30 * p) := by
  rw [show (30 : Int32) = nI 30 from rfl, pk_mul, Nat.mul_comm]
theorem bt_30m (p : Nat) : 30 * nI p = nI (30 * p) := by
  rw [show (30 : Int32) = nI 30 from rfl, pk_mul]
theorem bt_p3 (p : Nat) : nI p + 3 = nI (p + 3) := nI_add p 3
theorem bt_p4 (p : Nat) : nI p + 4 = nI (p + 4) := nI_add p 4
theorem bt_p5 (p : Nat) : nI p + 5 = nI (p + 5) := nI_add p 5
theorem bt_p6 (p : Nat) : nI p + 6 = nI (p + 6) := nI_add p 6
theorem bt_p7 (p : Nat) : nI p + 7 = nI (p + 7) := nI_add p 7
theorem bt_s1 {p : Nat} (h : 0 < p) : nI p - 1 = nI (p - 1) := pk_sub (b := 1) h
theorem bt_m1 {p : Nat} (h : 0 < p) : nI p + (-1) = nI (p - 1) := by
  obtain ⟨q, rfl⟩ : ∃ q, p = q + 1 := ⟨p - 1, by omega⟩
  exact pk_m1 q
theorem bt_out {N : Nat} {x : Int32} (hN : N < 2 ^ 31) (h : ¬ ∃ q, q < N ∧ x = nI q) : x < 0 ∨ (¬ x < 0 ∧ 0 ≤ x ∧ nI N ≤ x ∧ ¬ x < nI N) := by
  rcases pk_ix x hN with a | a | ⟨j, hj, e⟩
  · exact Or.inl a
  · by_cases z : x < 0
    · exact Or.inl z
    · exact Or.inr ⟨z, Int32.not_lt.mp z, a, Int32.not_lt.mpr a⟩
  · exact absurd ⟨j, hj, e⟩ h
theorem bt_neg0 {x : Int32} (h : x < 0) : ¬ 0 ≤ x := Int32.not_le.mpr h
def bt_rw (x : Int32) (m : Nat) : Prop := m < 2 ^ 31 ∧ ((x < 0 ∧ ¬ 0 ≤ x ∧ -1 - x = nI m) ∨ (¬ x < 0 ∧ 0 ≤ x ∧ x = nI m))
theorem bt_rw_e (x : Int32) : ∃ m, bt_rw x m := by
  by_cases h : x < 0
  · obtain ⟨m, hm, e⟩ := bt_row x h
    exact ⟨m, hm, Or.inl ⟨h, bt_neg0 h, e⟩⟩
  · obtain ⟨m, hm, e⟩ := nI_of h
    exact ⟨m, hm, Or.inr ⟨h, Int32.not_lt.mp h, e⟩⟩
def bt_dg (m D : Nat) : Prop := D ≤ 9 ∧ ∀ j, (j < D ↔ 0 < m / 11 ^ j)
def bt_of (b : Nat) : Option Nat → Int32
  | none => -1
  | some k => nI (b + k)
def bt_cf (cc cv : Nat → Int32) (a : Nat) (x : Int32) : Option Nat := bt_f (fun k => ¬ cc (6 * a + k) = 0 ∧ cv (6 * a + k) = x) 0 6
def bt_uf (cc : Nat → Int32) (a : Nat) : Option Nat := bt_f (fun k => cc (6 * a + k) = 0) 0 6
def bt_vn (cc : Nat → Int32) (a : Nat) : Option Nat → Int32
  | none => 1
  | some k => cc (6 * a + k)
def bt_vg (mn : Nat → Int32) (a : Nat) (x : Int32) : Option Nat → Nat → Int32
  | none, _ => x
  | some k, m => mn (5 * (6 * a + k) + m)
/-- the first child of that name of the c nodes g -/
def bt_ch (st pa nm : Nat → Int32) (d x : Int32) : Option Nat := bt_f (fun n => st n = 1 ∧ pa n = d ∧ nm n = x) 3 45
def bt_lk (F : Int32 → Option Nat) (g : Nat → Int32) : Nat → Nat → Option Nat
  | _, 0 => none
  | k, d + 1 => match F (g k) with
    | some n => some n
    | none => bt_lk F g (k + 1) d
section
variable {st dr nm pa sz th dl sp tb dn cc cv mn mc oc on om op sY tY dy dm vc ms me cr hd hN ps la : Nat → Int32} {s s' t t' : Nat → Nat} {a b : Nat} {x : Int32}
/-- what a cover of both sides shows -/
theorem bt_view (hC : ∀ k, k < 6 → bt_C st cc cv mn mc vc ms me cr (6 * a + k) (6 * b + k)) (hx : bt_N st x) :
    ∃ c, 1 ≤ c ∧ c ≤ 5 ∧ bt_vn cc a (bt_cf cc cv a x) = nI c ∧ (∀ m, m < c → bt_N st (bt_vg mn a x (bt_cf cc cv a x) m)) ∧
      (bt_cf cc cv a x = none → c = 1) ∧
      (∀ k, bt_cf cc cv a x = some k → k < 6 ∧ cc (6 * a + k) = nI c ∧ ms (6 * b + k) = nI c ∧ cv (6 * a + k) = x ∧ vc (6 * b + k) = x ∧
        ∀ m, m < c → mn (5 * (6 * a + k) + m) = me (5 * (6 * b + k) + m) ∧ mc (5 * (6 * a + k) + m) = cr (5 * (6 * b + k) + m) ∧ bt_N st (mn (5 * (6 * a + k) + m))) := by
  cases e : bt_cf cc cv a x with
  | none => exact ⟨1, Nat.le_refl _, by omega, rfl, fun m hm => hx, fun _ => rfl, fun k hk => by cases hk⟩
  | some k =>
    obtain ⟨_, k6, ⟨z, y⟩, _⟩ := bt_f_s 6 0 e
    have k6' : k < 6 := by omega
    rcases hC k k6' with ⟨u, _⟩ | ⟨c, c1, c5, u1, u2, u3, u4, u5⟩
    · exact absurd u z
    · refine ⟨c, c1, c5, u1, fun m hm => (u5 m hm).2.2, fun h => (by cases h), fun k2 h => ?_⟩
      cases h
      exact ⟨k6', u1, u2, y, u3.symm.trans y, u5⟩
theorem bt_Nx {x : Int32} (h : bt_N st x) : x ≠ -1 := by
  obtain ⟨n, hN, e, _⟩ := h
  rw [e]; exact bt_neg (by omega)
theorem bt_Cc (hC : ∀ k, k < 6 → bt_C st cc cv mn mc vc ms me cr (6 * a + k) (6 * b + k)) : ∀ k, k < 6 → ∃ c, c ≤ 5 ∧ cc (6 * a + k) = nI c := by
  intro k hk
  rcases hC k hk with ⟨u, _⟩ | ⟨c, c1, c5, u1, _⟩
  · exact ⟨0, by omega, u⟩
  · exact ⟨c, c5, u1⟩
end
theorem bt_sw_u {st a b : Nat → Int32} {H : Nat → Prop} (ha : bt_sw st H a) (hb : bt_sw st H b) : a = b := by
  funext n
  by_cases e : 3 ≤ n ∧ n < 48 ∧ st n = 2 ∧ ¬ H n
  · rw [(ha n).1 e, (hb n).1 e]
  · rw [(ha n).2 e, (hb n).2 e]
theorem bt_lk_in {F : Int32 → Option Nat} {g : Nat → Int32} {Q : Nat → Prop} (hF : ∀ y n, F y = some n → Q n) : ∀ (d k : Nat) {n : Nat}, bt_lk F g k d = some n → Q n
  | 0, k, n, h => by
    have h' : (none : Option Nat) = some n := h
    cases h'
  | d + 1, k, n, h => by
    simp only [bt_lk] at h
    cases e : F (g k) with
    | none => rw [e] at h; exact bt_lk_in hF d (k + 1) h
    | some m =>
      rw [e] at h
      have h' : m = n := Option.some.inj h
      rw [← h']; exact hF _ _ e
theorem bt_ct_c {P Q : Nat → Prop} [DecidablePred P] [DecidablePred Q] : ∀ (d i : Nat) (c : Int32), (∀ j, i ≤ j → j < i + d → (P j ↔ Q j)) → bt_ct P i d c = bt_ct Q i d c
  | 0, _, _, _ => rfl
  | d + 1, i, c, h => by
    simp only [bt_ct]
    have e : (if P i then c + 1 else c) = (if Q i then c + 1 else c) := by
      by_cases z : P i
      · rw [if_pos z, if_pos ((h i (Nat.le_refl _) (by omega)).mp z)]
      · rw [if_neg z, if_neg (fun y => z ((h i (Nat.le_refl _) (by omega)).mpr y))]
    rw [e]
    exact bt_ct_c d (i + 1) _ (fun j a b => h j (by omega) (by omega))
theorem bt_ct_a {P : Nat → Prop} [DecidablePred P] : ∀ (d i : Nat) (c : Int32), bt_ct P i d c = c + bt_ct P i d 0
  | 0, _, c => (Int32.add_zero c).symm
  | d + 1, i, c => by
    simp only [bt_ct]
    rw [bt_ct_a d (i + 1) (if P i then c + 1 else c), bt_ct_a d (i + 1) (if P i then (0 : Int32) + 1 else 0)]
    by_cases z : P i
    · rw [if_pos z, if_pos z, ← Int32.add_assoc, ← Int32.add_assoc, Int32.add_zero]
    · rw [if_neg z, if_neg z, ← Int32.add_assoc, Int32.add_zero]
theorem bt_ct_d {P Q : Nat → Prop} [DecidablePred P] [DecidablePred Q] {p : Nat} (hP : P p) (hQ : ¬ Q p) (he : ∀ j, j ≠ p → (P j ↔ Q j)) : ∀ (d i : Nat) (c : Int32), i ≤ p → p < i + d → bt_ct P i d c = bt_ct Q i d c + 1
  | 0, i, c, h1, h2 => by omega
  | d + 1, i, c, h1, h2 => by
    simp only [bt_ct]
    by_cases z : i = p
    · subst z
      rw [if_pos hP, if_neg hQ, bt_ct_c d (i + 1) (c + 1) (fun j a b => he j (by omega)), bt_ct_a d (i + 1) (c + 1), bt_ct_a d (i + 1) c]
      grind
    · have e : (if P i then c + 1 else c) = (if Q i then c + 1 else c) := by
        by_cases y : P i
        · rw [if_pos y, if_pos ((he i z).mp y)]
        · rw [if_neg y, if_neg (fun w => y ((he i z).mpr w))]
      rw [e]
      exact bt_ct_d hP hQ he d (i + 1) _ (by omega) (by omega)
/-- f2 is f with len cells copied from src to dst -/
def bt_cp (f f2 : Nat → Int32) (src dst len : Nat) : Prop := (∀ i, i < len → f2 (dst + i) = f (src + i)) ∧ (∀ x, (x < dst ∨ dst + len ≤ x) → f2 x = f x)
theorem bt_cp_0 {f : Nat → Int32} {src dst : Nat} : bt_cp f f src dst 0 := ⟨fun i h => by omega, fun x _ => rfl⟩
theorem bt_cp_s {f g : Nat → Int32} {src dst i len : Nat} {y : Int32} (h : bt_cp f g src dst i) (hi : i < len) (hd : src + len ≤ dst ∨ dst + len ≤ src) (hy : y = g (src + i)) : bt_cp f (upd g (dst + i) y) src dst (i + 1) := by
  have e : g (src + i) = f (src + i) := h.2 _ (by omega)
  refine ⟨fun j hj => ?_, fun x hx => ?_⟩
  · by_cases z : j = i
    · rw [z, pk_us, hy, e]
    · rw [pk_un (by omega)]; exact h.1 j (by omega)
  · rw [pk_un (by omega)]; exact h.2 x (by omega)
theorem bt_cp_B {f g : Nat → Int32} {src dst len : Nat} (h : bt_cp f g src dst len) (hf : ∀ i, bt_B (f i)) : ∀ i, bt_B (g i) := by
  intro i
  by_cases z : i < dst ∨ dst + len ≤ i
  · rw [h.2 i z]; exact hf i
  · obtain ⟨j, rfl⟩ : ∃ j, i = dst + j := ⟨i - dst, by omega⟩
    rw [h.1 j (by omega)]; exact hf _
