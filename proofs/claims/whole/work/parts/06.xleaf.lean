section
variable {ls tl ec kc : Int32} {st dr nm pa ve sz it sm hl th sp tb dl dn cc cv mn mc oc on om op tr el cm : Nat → Int32} {post : Int32 → Prop}
theorem xx_isP1 {q : Nat} (hq : q < 4) (ht : th q ≠ 0) (h : post 1) : wpX_isProcess post (ls, tl, ec, kc, st, dr, nm, pa, ve, sz, it, sm, hl, th, sp, tb, dl, dn, cc, cv, mn, mc, oc, on, om, op, tr, el, cm) (nI q) := by
  simp only [wpX_isProcess, bt_ix4 hq, ht, h, not_true, not_false_iff, false_implies, true_implies, true_and, and_true, forall_eq, implies_true, ne_eq]
theorem xx_isP0 {p : Int32} (hp : ¬ ∃ q, q < 4 ∧ p = nI q ∧ th q ≠ 0) (h : post 0) : wpX_isProcess post (ls, tl, ec, kc, st, dr, nm, pa, ve, sz, it, sm, hl, th, sp, tb, dl, dn, cc, cv, mn, mc, oc, on, om, op, tr, el, cm) p := by
  rcases pk_ix p (n := 4) (by decide) with a | a | ⟨j, hj, rfl⟩
  · simp only [wpX_isProcess, a, bt_neg0 a, h, not_true, not_false_iff, false_implies, true_implies, true_and, and_true, forall_eq, implies_true, ne_eq]
  · have a2 : ¬ p < 4 := Int32.not_lt.mpr a
    have a3 : (4 : Int32) ≤ p := a
    have a4 : ¬ p < 0 := fun z => a2 (Int32.lt_trans z (by decide))
    simp only [wpX_isProcess, a2, a3, a4, Int32.not_lt.mp a4, h, not_true, not_false_iff, false_implies, true_implies, true_and, and_true, forall_eq, implies_true, ne_eq]
  · have z : th j = 0 := Classical.byContradiction fun z => hp ⟨j, hj, rfl, z⟩
    simp only [wpX_isProcess, bt_ix4 hj, z, h, not_true, not_false_iff, false_implies, true_implies, true_and, and_true, forall_eq, implies_true, ne_eq]
theorem xx_row {x : Int32} {m : Nat} (hm : bt_rw x m) (h : post (nI m)) : wpX_rowOf post x := by
  rcases hm with ⟨_, ⟨a, b, e⟩ | ⟨a, b, e⟩⟩
  · simp only [wpX_rowOf, a, b, e, h, not_true, not_false_iff, false_implies, true_implies, true_and, and_true, forall_eq, implies_true, ne_eq]
  · simp only [wpX_rowOf, a, b, not_true, not_false_iff, false_implies, true_implies, true_and, and_true, forall_eq, implies_true, ne_eq]
    rw [e]; exact h
theorem xx_ends {x : Int32} {m : Nat} (hm : bt_rw x m) (h1 : m % 11 ≠ 0 ∧ m % 11 ≠ 10 → post 1) (h0 : ¬ (m % 11 ≠ 0 ∧ m % 11 ≠ 10) → post 0) : wpX_endsInName post x := by
  unfold wpX_endsInName
  refine xx_row hm ?_
  sorry
theorem xx_wol {x : Int32} {m : Nat} (hm : bt_rw x m) (h : ∀ y, bt_rw y (m / 11) → (y < 0 ↔ x < 0) → post y) : wpX_withoutLast post x := by
  unfold wpX_withoutLast
  refine xx_row hm ?_
  sorry
theorem xx_path {x : Int32} {m D : Nat} (hm : bt_rw x m) (hD : bt_dg m D) (h1 : bt_g m D → post 1) (h0 : ¬ bt_g m D → post 0) : wpX_isPath post x := by
  unfold wpX_isPath
  refine xx_row hm ?_
  sorry
end
