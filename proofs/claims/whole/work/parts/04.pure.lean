def bt_o : Option Nat → Int32
  | none => -1
  | some n => nI n
def bt_f (P : Nat → Prop) [DecidablePred P] : Nat → Nat → Option Nat
  | _, 0 => none
  | i, d + 1 => if P i then some i else bt_f P (i + 1) d
theorem bt_f_s {P : Nat → Prop} [DecidablePred P] : ∀ (d i : Nat) {n : Nat}, bt_f P i d = some n → i ≤ n ∧ n < i + d ∧ P n ∧ ∀ j, i ≤ j → j < n → ¬ P j
  | 0, i, n, h => by
    have h2 : (none : Option Nat) = some n := h
    cases h2
  | d + 1, i, n, h => by
    simp only [bt_f] at h
    by_cases e : P i
    · rw [if_pos e] at h
      have : i = n := Option.some.inj h
      subst this
      exact ⟨Nat.le_refl _, by omega, e, fun j h1 h2 => by omega⟩
    · rw [if_neg e] at h
      obtain ⟨a, b, c, f⟩ := bt_f_s d (i + 1) h
      refine ⟨by omega, by omega, c, fun j h1 h2 => ?_⟩
      by_cases z : j = i
      · rw [z]; exact e
      · exact f j (by omega) h2
theorem bt_f_n {P : Nat → Prop} [DecidablePred P] : ∀ (d i : Nat), bt_f P i d = none → ∀ j, i ≤ j → j < i + d → ¬ P j
  | 0, i, _, j, h1, h2 => by omega
  | d + 1, i, h, j, h1, h2 => by
    simp only [bt_f] at h
    by_cases e : P i
    · rw [if_pos e] at h; cases h
    · rw [if_neg e] at h
      by_cases z : j = i
      · rw [z]; exact e
      · exact bt_f_n d (i + 1) h j (by omega) (by omega)
def bt_ct (P : Nat → Prop) [DecidablePred P] : Nat → Nat → Int32 → Int32
  | _, 0, c => c
  | i, d + 1, c => bt_ct P (i + 1) d (if P i then c + 1 else c)
def bt_nx (P : Nat → Prop) [DecidablePred P] (g : Nat → Int32) : Nat → Nat → Option Nat → Option Nat
  | _, 0, b => b
  | i, d + 1, none => bt_nx P g (i + 1) d (if P i then some i else none)
  | i, d + 1, some b => bt_nx P g (i + 1) d (if P i ∧ ¬ g b ≤ g i then some i else some b)
theorem bt_nx_in {P : Nat → Prop} [DecidablePred P] {g : Nat → Int32} (Q : Nat → Prop) : ∀ (d i : Nat) (b : Option Nat), (∀ j, i ≤ j → j < i + d → P j → Q j) → (∀ n, b = some n → Q n) → ∀ n, bt_nx P g i d b = some n → Q n
  | 0, i, b, _, h2, n, e => by
    cases b with
    | none =>
      have e2 : (none : Option Nat) = some n := e
      cases e2
    | some b =>
      have e2 : some b = some n := e
      exact h2 n e2
  | d + 1, i, none, h1, h2, n, e => by
    simp only [bt_nx] at e
    refine bt_nx_in Q d (i + 1) _ (fun j a b c => h1 j (by omega) (by omega) c) (fun m hm => ?_) n e
    by_cases z : P i
    · rw [if_pos z] at hm
      have : i = m := Option.some.inj hm
      subst this
      exact h1 i (Nat.le_refl _) (by omega) z
    · rw [if_neg z] at hm; cases hm
  | d + 1, i, some b, h1, h2, n, e => by
    simp only [bt_nx] at e
    refine bt_nx_in Q d (i + 1) _ (fun j a b c => h1 j (by omega) (by omega) c) (fun m hm => ?_) n e
    by_cases z : P i ∧ ¬ g b ≤ g i
    · rw [if_pos z] at hm
      have : i = m := Option.some.inj hm
      subst this
      exact h1 i (Nat.le_refl _) (by omega) z.1
    · rw [if_neg z] at hm
      exact h2 m hm
-- paths
theorem bt_row (x : Int32) (h : x < 0) : ∃ m, m < 2 ^ 31 ∧ -1 - x = nI m := by
  have h0 : x.toInt < 0 := by
    have := Int32.lt_iff_toInt_lt.mp h
    rw [show (0 : Int32).toInt = 0 from by decide] at this
    exact this
  have h1 : -2147483648 ≤ x.toInt := by have := Int32.le_toInt x; omega
  have e : (-1 - x).toInt = -1 - x.toInt := by
    rw [Int32.toInt_sub]
    have : (-1 : Int32).toInt = -1 := by decide
    rw [this]
    apply Int.bmod_eq_of_le <;> omega
  refine nI_of (fun z => ?_) 
  have := Int32.lt_iff_toInt_lt.mp z
  rw [e] at this
  have z0 : (0 : Int32).toInt = 0 := by decide
  rw [z0] at this
  omega
theorem bt_neg1 {q : Nat} (h : q < 2 ^ 31) : (-1 - nI q) < 0 := by
  rw [Int32.lt_iff_toInt_lt, Int32.toInt_sub, nI_toInt h]
  have a : (-1 : Int32).toInt = -1 := by decide
  have b : (0 : Int32).toInt = 0 := by decide
  rw [a, b, Int.bmod_eq_of_le (by omega) (by omega)]
  omega
theorem bt_neg2 (x : Int32) : -1 - (-1 - x) = x := by grind
theorem bt_dv (m j : Nat) : m / 11 ^ j / 11 = m / 11 ^ (j + 1) := by
  rw [Nat.div_div_eq_div_mul, Nat.pow_succ]
theorem bt_dv' (m j : Nat) : m / 11 / 11 ^ j = m / 11 ^ (j + 1) := by
  rw [Nat.div_div_eq_div_mul, Nat.pow_succ, Nat.mul_comm]
theorem bt_dig (m : Nat) (h : m < 2 ^ 31) : ∃ D, D ≤ 9 ∧ ∀ j, (j < D ↔ 0 < m / 11 ^ j) := by
  have h9 : m / 11 ^ 9 = 0 := Nat.div_eq_of_lt (by omega)
  obtain ⟨D, hD, hl⟩ := pk_least (fun k => m / 11 ^ k = 0) ⟨9, h9⟩
  refine ⟨D, ?_, fun j => ⟨fun hj => Nat.pos_of_ne_zero (hl j hj), fun hj => ?_⟩⟩
  · rcases Nat.lt_or_ge 9 D with z | z
    · exact absurd h9 (hl 9 z)
    · exact z
  · rcases Nat.lt_or_ge j D with z | z
    · exact z
    · have le : m / 11 ^ j ≤ m / 11 ^ D := Nat.div_le_div_left (Nat.pow_le_pow_right (by omega) z) (Nat.pow_pos (by omega))
      have hD' : m / 11 ^ D = 0 := hD
      omega
/-- m's elements, D of them, are those of a path -/
def bt_g (m D : Nat) : Prop := D ≤ 6 ∧ ∀ j, j < D → m / 11 ^ j % 11 ≠ 0
-- numbers of spaces and tables
theorem bt_pig3 : ∀ x y z : Fin 4, ∃ j : Fin 4, j ≠ x ∧ j ≠ y ∧ j ≠ z := by decide
theorem bt_pig {th : Nat → Int32} {s : Nat → Nat} {c : Nat} (hc : c < 4) (tc : th c = 0) (hs : ∀ p, p < 4 → s p < 4) :
    ∃ j, j < 4 ∧ ∀ q, q < 4 → th q ≠ 0 → s q ≠ j := by
  have key : ∀ x y z : Nat, x < 4 → y < 4 → z < 4 → (∀ q, q < 4 → q = c ∨ q = x ∨ q = y ∨ q = z) → ∃ j, j < 4 ∧ ∀ q, q < 4 → th q ≠ 0 → s q ≠ j := by
    intro x y z hx hy hz hq
    obtain ⟨j, a, b, d⟩ := bt_pig3 ⟨s x, hs x hx⟩ ⟨s y, hs y hy⟩ ⟨s z, hs z hz⟩
    refine ⟨j.val, j.isLt, fun q hq4 tq e => ?_⟩
    rcases hq q hq4 with h | h | h | h
    · rw [h] at tq; exact tq tc
    · exact a (Fin.ext (by rw [← e, h]))
    · exact b (Fin.ext (by rw [← e, h]))
    · exact d (Fin.ext (by rw [← e, h]))
  have : c = 0 ∨ c = 1 ∨ c = 2 ∨ c = 3 := by omega
  rcases this with h | h | h | h
  · exact key 1 2 3 (by omega) (by omega) (by omega) (fun q hq => by omega)
  · exact key 0 2 3 (by omega) (by omega) (by omega) (fun q hq => by omega)
  · exact key 0 1 3 (by omega) (by omega) (by omega) (fun q hq => by omega)
  · exact key 0 1 2 (by omega) (by omega) (by omega) (fun q hq => by omega)
theorem bt_or : ∀ m, m < 16 → ∀ a, a < 4 → nI m ||| ((1 : Int32) <<< (nI a &&& 31)) = nI (m ||| 2 ^ a) ∧ m ||| 2 ^ a < 16 ∧ ∀ j, j < 4 → (m ||| 2 ^ a).testBit j = (m.testBit j || decide (a = j)) := by decide +kernel
theorem bt_and : ∀ m, m < 16 → ∀ a, a < 4 → ((nI m &&& ((1 : Int32) <<< (nI a &&& 31))) = 0 ↔ m.testBit a = false) := by decide +kernel
