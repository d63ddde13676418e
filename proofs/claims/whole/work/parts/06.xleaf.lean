section
variable {ls tl ec kc : Int32} {st dr nm pa ve sz it sm hl th sp tb dl dn cc cv mn mc oc on om op tr el cm : Nat → Int32} {post : Int32 → Prop}
theorem xx_isP1 {q : Nat} (hq : q < 4) (ht : th q ≠ 0) (h : post 1) : wpX_isProcess post (ls, tl, ec, kc, st, dr, nm, pa, ve, sz, it, sm, hl, th, sp, tb, dl, dn, cc, cv, mn, mc, oc, on, om, op, tr, el, cm) (nI q) := by
  have ix := bt_ix4 hq
  refine br_f ix.1 (br_f ix.2.2.2.1 ⟨ix.2.2.2.2.1, br_f ?_ h⟩)
  rw [ix.2.2.2.2.2.1]; exact ht
theorem xx_isP0 {p : Int32} (hp : ¬ ∃ q, q < 4 ∧ p = nI q ∧ th q ≠ 0) (h : post 0) : wpX_isProcess post (ls, tl, ec, kc, st, dr, nm, pa, ve, sz, it, sm, hl, th, sp, tb, dl, dn, cc, cv, mn, mc, oc, on, om, op, tr, el, cm) p := by
  by_cases a : p < 0
  · exact br_t a h
  refine br_f a ?_
  by_cases b : (4 : Int32) ≤ p
  · exact br_t b h
  refine br_f b ?_
  rcases pk_ix p (n := 4) (by decide) with c | c | ⟨j, hj, rfl⟩
  · exact absurd c a
  · exact absurd c b
  · have ix := bt_ix4 hj
    have z : th j = 0 := Classical.byContradiction fun z => hp ⟨j, hj, rfl, z⟩
    refine ⟨ix.2.2.2.2.1, br_t ?_ h⟩
    rw [ix.2.2.2.2.2.1]; exact z
theorem xx_row {x : Int32} {m : Nat} (hm : bt_rw x m) (h : post (nI m)) : wpX_rowOf post x := by
  rcases hm with ⟨_, ⟨a, b, e⟩ | ⟨a, b, e⟩⟩
  · refine br_f b ?_
    rw [e]; exact h
  · refine br_t b ?_
    rw [e]; exact h
theorem bt_11 : ¬ (11 : Int32) = 0 := by decide
theorem bt_r11 {m : Nat} (h : m < 2 ^ 31) : nI m - nI m / 11 * 11 = nI (m % 11) := pk_rem (d := 11) h (by decide) (by decide)
theorem bt_d11 {m : Nat} (h : m < 2 ^ 31) : nI m / 11 = nI (m / 11) := pk_div (d := 11) h (by decide) (by decide)
theorem bt_e0 {m : Nat} (h : m < 2 ^ 31) : nI m = 0 ↔ m = 0 := nI_eq (b := 0) h (by decide)
theorem bt_e10 {m : Nat} (h : m < 2 ^ 31) : nI m = 10 ↔ m = 10 := nI_eq (b := 10) h (by decide)
theorem bt_le0 {m : Nat} (h : m < 2 ^ 31) : nI m ≤ 0 ↔ m = 0 := by
  have := nI_leI (a := m) (b := 0) h (by decide)
  exact this.trans (by omega)
theorem xx_ends {x : Int32} {m : Nat} (hm : bt_rw x m) (h1 : m % 11 ≠ 0 ∧ m % 11 ≠ 10 → post 1) (h0 : ¬ (m % 11 ≠ 0 ∧ m % 11 ≠ 10) → post 0) : wpX_endsInName post x := by
  unfold wpX_endsInName
  refine xx_row hm ⟨bt_11, nm_r (bt_r11 hm.1) (ek_if (bt_e0 (by omega)) (fun z => h0 (by omega)) (fun z => ek_if (bt_e10 (by omega)) (fun y => h0 (by omega)) (fun y => h1 ⟨z, y⟩)))⟩
theorem xx_wol {x : Int32} {m : Nat} (hm : bt_rw x m) (h : ∀ y, bt_rw y (m / 11) → (y < 0 ↔ x < 0) → post y) : wpX_withoutLast post x := by
  unfold wpX_withoutLast
  refine xx_row hm ⟨bt_11, nm_r (bt_d11 hm.1) ?_⟩
  have hq : m / 11 < 2 ^ 31 := Nat.lt_of_le_of_lt (Nat.div_le_self _ _) hm.1
  rcases hm with ⟨_, ⟨a, b, e⟩ | ⟨a, b, e⟩⟩
  · exact br_f b (h _ ⟨hq, Or.inl ⟨bt_neg1 hq, bt_neg0 (bt_neg1 hq), bt_neg2 _⟩⟩ ⟨fun _ => a, fun _ => bt_neg1 hq⟩)
  · exact br_t b (h _ ⟨hq, Or.inr ⟨nI_pos hq, nI_pos' hq, rfl⟩⟩ ⟨fun z => absurd z (nI_pos hq), fun z => absurd z a⟩)
theorem bt_dlt {m : Nat} (h : m < 2 ^ 31) (j : Nat) : m / 11 ^ j < 2 ^ 31 := Nat.lt_of_le_of_lt (Nat.div_le_self _ _) h
theorem xx_path_l {m D : Nat} (hm : m < 2 ^ 31) (hD : bt_dg m D) (h1 : bt_g m D → post 1) (h0 : ¬ bt_g m D → post 0) :
    ∀ (e i n : Nat), i + e = 6 → e < n → i ≤ D → (∀ j, j < i → m / 11 ^ j % 11 ≠ 0) → wX_isPath_7 post n (nI (m / 11 ^ i)) (nI i) := by
  have ex : ∀ i, i ≤ 6 → (i = 6 ∨ m / 11 ^ i = 0) → i ≤ D → (∀ j, j < i → m / 11 ^ j % 11 ≠ 0) → wX_isPath_37 post (nI (m / 11 ^ i)) := by
    intro i h6 hi hiD hj
    refine ek_if (bt_e0 (bt_dlt hm i)) (fun z => h1 ?_) (fun z => h0 ?_)
    · have : ¬ i < D := fun y => by have := (hD.2 i).mp y; omega
      have : i = D := by omega
      subst this
      exact ⟨h6, hj⟩
    · intro g
      have : i < D := (hD.2 i).mpr (Nat.pos_of_ne_zero z)
      have := g.1
      omega
  intro e
  induction e with
  | zero =>
    intro i n hi hn hiD hj
    obtain ⟨n, rfl⟩ : ∃ n', n = n' + 1 := ⟨n - 1, by omega⟩
    have : i = 6 := by omega
    subst this
    exact br_t (by decide) (ex 6 (Nat.le_refl _) (Or.inl rfl) hiD hj)
  | succ e ih =>
    intro i n hi hn hiD hj
    obtain ⟨n, rfl⟩ : ∃ n', n = n' + 1 := ⟨n - 1, by omega⟩
    refine br_f (nI_ge (b := 6) (by omega) (by decide)) (ek_if (bt_le0 (bt_dlt hm i)) (fun z => ex i (by omega) (Or.inr z) hiD hj) (fun z => ⟨bt_11, ?_⟩))
    have hiD2 : i < D := (hD.2 i).mpr (Nat.pos_of_ne_zero z)
    rw [bt_r11 (bt_dlt hm i), bt_d11 (bt_dlt hm i), bt_dv]
    refine ek_if (bt_e0 (by omega)) (fun y => h0 (fun g => g.2 i hiD2 y)) (fun y => ⟨bt_11, nm_e (nm_r (nI_1 i) ?_)⟩)
    refine ih (i + 1) n (by omega) (by omega) (by omega) (fun j h => ?_)
    by_cases w : j = i
    · rw [w]; exact y
    · exact hj j (by omega)
theorem xx_path {x : Int32} {m D : Nat} (hm : bt_rw x m) (hD : bt_dg m D) (h1 : bt_g m D → post 1) (h0 : ¬ bt_g m D → post 0) : wpX_isPath post x := by
  unfold wpX_isPath
  refine xx_row hm ⟨7, ?_⟩
  have := xx_path_l (post := post) hm.1 hD h1 h0 6 0 7 rfl (by omega) (by omega) (fun j h => by omega)
  rw [Nat.pow_zero, Nat.div_one, nI_0] at this
  exact this
theorem xx_coverOf_l {a : Nat} {x : Int32} (ha : a < 4) (hc : ∀ k, k < 6 → ∃ c, c ≤ 5 ∧ cc (6 * a + k) = nI c) :
    ∀ (e i n : Nat), i + e = 6 → e < n → post (bt_of (6 * a) (bt_f (fun k => ¬ cc (6 * a + k) = 0 ∧ cv (6 * a + k) = x) i e)) → wX_coverOf_5 post (nI a) x ls tl ec kc st dr nm pa ve sz it sm hl th sp tb dl dn cc cv mn mc oc on om op tr el cm n (nI (6 * a + i)) := by
  have lim : (nI a + 1) * 6 = nI (6 * a + 6) := by rw [nI_1, bt_m6]; exact congrArg nI (by omega)
  intro e
  induction e with
  | zero =>
    intro i n hi hn h
    obtain ⟨n, rfl⟩ : ∃ n', n = n' + 1 := ⟨n - 1, by omega⟩
    have : i = 6 := by omega
    subst this
    refine br_t ?_ h
    rw [lim]; exact Int32.le_refl _
  | succ e ih =>
    intro i n hi hn h
    obtain ⟨n, rfl⟩ : ∃ n', n = n' + 1 := ⟨n - 1, by omega⟩
    have ix := bt_ix24 (q := 6 * a + i) (by omega)
    obtain ⟨c, c5, ec⟩ := hc i (by omega)
    simp only [bt_f] at h
    refine br_f ?_ ⟨ix.2.2.2.2.1, ?_⟩
    · rw [lim]; exact nI_ge (by omega) (by omega)
    rw [ix.2.2.2.2.2.1, ec]
    refine ek_if (bt_le0 (by omega)) (fun z => nm_r (nI_1 _) (ih (i + 1) n (by omega) (by omega) ?_)) (fun z => ⟨ix.2.2.2.2.1, ?_⟩)
    · rw [if_neg (fun y => y.1 (by rw [ec, z]; rfl))] at h; exact h
    · have nz : ¬ cc (6 * a + i) = 0 := by rw [ec]; exact fun y => z ((bt_e0 (by omega)).mp y)
      refine br_c (fun y => ?_) (fun y => nm_r (nI_1 _) (ih (i + 1) n (by omega) (by omega) ?_))
      · rw [if_pos ⟨nz, y⟩] at h; exact h
      · rw [if_neg (fun w => y w.2)] at h; exact h
theorem xx_coverOf {a : Nat} {x : Int32} (ha : a < 4) (hc : ∀ k, k < 6 → ∃ c, c ≤ 5 ∧ cc (6 * a + k) = nI c)
    (h : post (bt_of (6 * a) (bt_cf cc cv a x))) : wpX_coverOf post (ls, tl, ec, kc, st, dr, nm, pa, ve, sz, it, sm, hl, th, sp, tb, dl, dn, cc, cv, mn, mc, oc, on, om, op, tr, el, cm) (nI a) x :=
  nm_r (bt_m6 a) ⟨7, xx_coverOf_l ha hc 6 0 7 rfl (by omega) h⟩
theorem xx_unused_l {a : Nat} (ha : a < 4) :
    ∀ (e i n : Nat), i + e = 6 → e < n → post (bt_of (6 * a) (bt_f (fun k => cc (6 * a + k) = 0) i e)) → wX_unusedCover_5 post (nI a) ls tl ec kc st dr nm pa ve sz it sm hl th sp tb dl dn cc cv mn mc oc on om op tr el cm n (nI (6 * a + i)) := by
  have lim : (nI a + 1) * 6 = nI (6 * a + 6) := by rw [nI_1, bt_m6]; exact congrArg nI (by omega)
  intro e
  induction e with
  | zero =>
    intro i n hi hn h
    obtain ⟨n, rfl⟩ : ∃ n', n = n' + 1 := ⟨n - 1, by omega⟩
    have : i = 6 := by omega
    subst this
    refine br_t ?_ h
    rw [lim]; exact Int32.le_refl _
  | succ e ih =>
    intro i n hi hn h
    obtain ⟨n, rfl⟩ : ∃ n', n = n' + 1 := ⟨n - 1, by omega⟩
    have ix := bt_ix24 (q := 6 * a + i) (by omega)
    simp only [bt_f] at h
    refine br_f ?_ ⟨ix.2.2.2.2.1, ?_⟩
    · rw [lim]; exact nI_ge (by omega) (by omega)
    rw [ix.2.2.2.2.2.1]
    refine br_c (fun z => ?_) (fun z => nm_r (nI_1 _) (ih (i + 1) n (by omega) (by omega) ?_))
    · rw [if_pos z] at h; exact h
    · rw [if_neg z] at h; exact h
theorem xx_unused {a : Nat} (ha : a < 4) (h : post (bt_of (6 * a) (bt_uf cc a))) : wpX_unusedCover post (ls, tl, ec, kc, st, dr, nm, pa, ve, sz, it, sm, hl, th, sp, tb, dl, dn, cc, cv, mn, mc, oc, on, om, op, tr, el, cm) (nI a) :=
  nm_r (bt_m6 a) ⟨7, xx_unused_l ha 6 0 7 rfl (by omega) h⟩
theorem xx_seenCount {a : Nat} {o : Option Nat} (ha : a < 4) (ho : ∀ k, o = some k → k < 6) (h : post (bt_vn cc a o)) : wpX_seenCount post (ls, tl, ec, kc, st, dr, nm, pa, ve, sz, it, sm, hl, th, sp, tb, dl, dn, cc, cv, mn, mc, oc, on, om, op, tr, el, cm) (bt_of (6 * a) o) := by
  cases o with
  | none => exact br_t rfl h
  | some k =>
    have := ho k rfl
    have ix := bt_ix24 (q := 6 * a + k) (by omega)
    refine br_f ix.2.2.2.2.2.2 ⟨ix.2.2.2.2.1, ?_⟩
    show post (cc (nI (6 * a + k)).toNatClampNeg)
    rw [ix.2.2.2.2.2.1]; exact h
theorem xx_seenNode {a m : Nat} {x : Int32} {o : Option Nat} (ha : a < 4) (hm : m < 5) (ho : ∀ k, o = some k → k < 6) (h : post (bt_vg mn a x o m)) : wpX_seenNode post (ls, tl, ec, kc, st, dr, nm, pa, ve, sz, it, sm, hl, th, sp, tb, dl, dn, cc, cv, mn, mc, oc, on, om, op, tr, el, cm) (bt_of (6 * a) o) x (nI m) := by
  cases o with
  | none => exact br_t rfl h
  | some k =>
    have := ho k rfl
    have ix := bt_ix24 (q := 6 * a + k) (by omega)
    have iy := bt_ix120 (q := 5 * (6 * a + k) + m) (by omega)
    have e : nI (6 * a + k) * 5 + nI m = nI (5 * (6 * a + k) + m) := by rw [bt_m5, nI_add]
    refine br_f ix.2.2.2.2.2.2 ?_
    show vp_in (nI (6 * a + k) * 5 + nI m) 120 ∧ post (mn (nI (6 * a + k) * 5 + nI m).toNatClampNeg)
    rw [e, iy.2.2.2.2.2.1]
    exact ⟨iy.2.2.2.2.1, h⟩
theorem xx_isChild {n : Nat} {d : Int32} (hn : n < 48) (h1 : st n = 1 ∧ pa n = d → post 1) (h0 : ¬ (st n = 1 ∧ pa n = d) → post 0) : wpX_isChild post (ls, tl, ec, kc, st, dr, nm, pa, ve, sz, it, sm, hl, th, sp, tb, dl, dn, cc, cv, mn, mc, oc, on, om, op, tr, el, cm) (nI n) d := by
  have ix := bt_ix48 hn
  refine ⟨ix.2.2.2.2.1, ?_⟩
  rw [ix.2.2.2.2.2.1]
  refine br_c (fun z => ⟨ix.2.2.2.2.1, br_c (fun y => h1 ⟨z, y⟩) (fun y => h0 (fun w => y w.2))⟩) (fun z => h0 (fun w => z w.1))
theorem xx_childNamed_l {d x : Int32} : ∀ (e i n : Nat), i + e = 48 → e < n → post (bt_o (bt_f (fun n => st n = 1 ∧ pa n = d ∧ nm n = x) i e)) → wX_childNamed_2 post d x ls tl ec kc st dr nm pa ve sz it sm hl th sp tb dl dn cc cv mn mc oc on om op tr el cm n (nI i) := by
  intro e
  induction e with
  | zero =>
    intro i n hi hn h
    obtain ⟨n, rfl⟩ : ∃ n', n = n' + 1 := ⟨n - 1, by omega⟩
    have : i = 48 := by omega
    subst this
    exact br_t (by decide) h
  | succ e ih =>
    intro i n hi hn h
    obtain ⟨n, rfl⟩ : ∃ n', n = n' + 1 := ⟨n - 1, by omega⟩
    have ix := bt_ix48 (q := i) (by omega)
    simp only [bt_f] at h
    refine br_f ix.2.2.2.1 ⟨ix.2.2.2.2.1, ?_⟩
    rw [ix.2.2.2.2.2.1]
    refine br_c (fun z => xx_isChild (by omega) (fun y => br_f (by decide) ?_) (fun y => br_t rfl (nm_r (nI_1 _) (ih (i + 1) n (by omega) (by omega) ?_)))) (fun z => nm_r (nI_1 _) (ih (i + 1) n (by omega) (by omega) ?_))
    · rw [if_pos ⟨y.1, y.2, z⟩] at h; exact h
    · rw [if_neg (fun w => y ⟨w.1, w.2.1⟩)] at h; exact h
    · rw [if_neg (fun w => z w.2.2)] at h; exact h
theorem xx_childNamed {d x : Int32} (h : post (bt_o (bt_ch st pa nm d x))) : wpX_childNamed post (ls, tl, ec, kc, st, dr, nm, pa, ve, sz, it, sm, hl, th, sp, tb, dl, dn, cc, cv, mn, mc, oc, on, om, op, tr, el, cm) d x :=
  ⟨46, xx_childNamed_l 45 3 46 rfl (by omega) h⟩
theorem xx_lookUp_l {a c : Nat} {x y : Int32} {o : Option Nat} (ha : a < 4) (hc : c ≤ 5) (ho : ∀ k, o = some k → k < 6) :
    ∀ (e i n : Nat), i + e = c → e < n → post (bt_o (bt_lk (fun d => bt_ch st pa nm d y) (bt_vg mn a x o) i e)) → wX_lookUp_10 post (bt_of (6 * a) o) x y (nI c) ls tl ec kc st dr nm pa ve sz it sm hl th sp tb dl dn cc cv mn mc oc on om op tr el cm n (nI i) := by
  intro e
  induction e with
  | zero =>
    intro i n hi hn h
    obtain ⟨n, rfl⟩ : ∃ n', n = n' + 1 := ⟨n - 1, by omega⟩
    exact br_t (nI_le (by omega) (by omega)) h
  | succ e ih =>
    intro i n hi hn h
    obtain ⟨n, rfl⟩ : ∃ n', n = n' + 1 := ⟨n - 1, by omega⟩
    refine br_f (nI_ge (by omega) (by omega)) (xx_seenNode ha (by omega) ho (xx_childNamed ?_))
    simp only [bt_lk] at h
    cases q : bt_ch st pa nm (bt_vg mn a x o i) y with
    | none =>
      rw [q] at h
      exact br_t rfl (nm_r (nI_1 _) (ih (i + 1) n (by omega) (by omega) h))
    | some m =>
      rw [q] at h
      have m48 := bt_f_s 45 3 q
      exact br_f (bt_neg (by omega)) h
theorem xx_lookUp {a c : Nat} {x y : Int32} {o : Option Nat} (ha : a < 4) (hc : c ≤ 5) (hv : bt_vn cc a o = nI c) (ho : ∀ k, o = some k → k < 6)
    (h : post (bt_o (bt_lk (fun d => bt_ch st pa nm d y) (bt_vg mn a x o) 0 c))) : wpX_lookUp post (ls, tl, ec, kc, st, dr, nm, pa, ve, sz, it, sm, hl, th, sp, tb, dl, dn, cc, cv, mn, mc, oc, on, om, op, tr, el, cm) (bt_of (6 * a) o) x y := by
  unfold wpX_lookUp
  refine xx_seenCount ha ho ⟨c + 1, ?_⟩
  rw [hv]
  exact xx_lookUp_l ha hc ho c 0 (c + 1) (by omega) (by omega) h
theorem xx_childCount_l {d : Int32} : ∀ (e i n : Nat) (c : Int32), i + e = 48 → e < n → post (bt_ct (fun n => st n = 1 ∧ pa n = d) i e c) → wX_childCount_4 post d ls tl ec kc st dr nm pa ve sz it sm hl th sp tb dl dn cc cv mn mc oc on om op tr el cm n c (nI i) := by
  intro e
  induction e with
  | zero =>
    intro i n c hi hn h
    obtain ⟨n, rfl⟩ : ∃ n', n = n' + 1 := ⟨n - 1, by omega⟩
    have : i = 48 := by omega
    subst this
    exact br_t (by decide) h
  | succ e ih =>
    intro i n c hi hn h
    obtain ⟨n, rfl⟩ : ∃ n', n = n' + 1 := ⟨n - 1, by omega⟩
    have ix := bt_ix48 (q := i) (by omega)
    simp only [bt_ct] at h
    refine br_f ix.2.2.2.1 (xx_isChild (by omega) (fun y => br_f (by decide) (nm_e (nm_r (nI_1 _) (ih (i + 1) n _ (by omega) (by omega) ?_)))) (fun y => br_t rfl (nm_r (nI_1 _) (ih (i + 1) n _ (by omega) (by omega) ?_))))
    · rw [if_pos y] at h; exact h
    · rw [if_neg y] at h; exact h
theorem xx_childCount {d : Int32} (h : post (bt_ct (fun n => st n = 1 ∧ pa n = d) 3 45 0)) : wpX_childCount post (ls, tl, ec, kc, st, dr, nm, pa, ve, sz, it, sm, hl, th, sp, tb, dl, dn, cc, cv, mn, mc, oc, on, om, op, tr, el, cm) d :=
  ⟨46, xx_childCount_l 45 3 46 0 rfl (by omega) h⟩
theorem xx_freeNode_l : ∀ (e i n : Nat), i + e = 48 → e < n → post (bt_o (bt_f (fun n => st n = 0) i e)) → wX_freeNode_2 post ls tl ec kc st dr nm pa ve sz it sm hl th sp tb dl dn cc cv mn mc oc on om op tr el cm n (nI i) := by
  intro e
  induction e with
  | zero =>
    intro i n hi hn h
    obtain ⟨n, rfl⟩ : ∃ n', n = n' + 1 := ⟨n - 1, by omega⟩
    have : i = 48 := by omega
    subst this
    exact br_t (by decide) h
  | succ e ih =>
    intro i n hi hn h
    obtain ⟨n, rfl⟩ : ∃ n', n = n' + 1 := ⟨n - 1, by omega⟩
    have ix := bt_ix48 (q := i) (by omega)
    simp only [bt_f] at h
    refine br_f ix.2.2.2.1 ⟨ix.2.2.2.2.1, ?_⟩
    rw [ix.2.2.2.2.2.1]
    refine br_c (fun z => ?_) (fun z => nm_r (nI_1 _) (ih (i + 1) n (by omega) (by omega) ?_))
    · rw [if_pos z] at h; exact h
    · rw [if_neg z] at h; exact h
theorem xx_freeNode (h : post (bt_o (bt_f (fun n => st n = 0) 3 45))) : wpX_freeNode post (ls, tl, ec, kc, st, dr, nm, pa, ve, sz, it, sm, hl, th, sp, tb, dl, dn, cc, cv, mn, mc, oc, on, om, op, tr, el, cm) :=
  ⟨46, xx_freeNode_l 45 3 46 rfl (by omega) h⟩
theorem xx_creating_l {i c : Nat} (hi : i < 24) (hc : c ≤ 5) (ec0 : cc i = nI c) : ∀ (e j n : Nat), j + e = c → e < n →
    post (match bt_f (fun m => ¬ mc (5 * i + m) = 0) j e with | none => -1 | some m => mn (5 * i + m)) → wX_creatingMember_2 post (nI i) ls tl ec kc st dr nm pa ve sz it sm hl th sp tb dl dn cc cv mn mc oc on om op tr el cm n (nI j) := by
  have ix := bt_ix24 hi
  intro e
  induction e with
  | zero =>
    intro j n hj hn h
    obtain ⟨n, rfl⟩ : ∃ n', n = n' + 1 := ⟨n - 1, by omega⟩
    refine ⟨ix.2.2.2.2.1, ?_⟩
    rw [ix.2.2.2.2.2.1, ec0]
    exact br_t (nI_le (by omega) (by omega)) h
  | succ e ih =>
    intro j n hj hn h
    obtain ⟨n, rfl⟩ : ∃ n', n = n' + 1 := ⟨n - 1, by omega⟩
    have iy := bt_ix120 (q := 5 * i + j) (by omega)
    have e5 : nI i * 5 + nI j = nI (5 * i + j) := by rw [bt_m5, nI_add]
    simp only [bt_f] at h
    refine ⟨ix.2.2.2.2.1, ?_⟩
    rw [ix.2.2.2.2.2.1, ec0, e5, iy.2.2.2.2.2.1]
    refine br_f (nI_ge (by omega) (by omega)) ⟨iy.2.2.2.2.1, br_c (fun z => nm_r (nI_1 _) (ih (j + 1) n (by omega) (by omega) ?_)) (fun z => ⟨iy.2.2.2.2.1, ?_⟩)⟩
    · rw [if_neg (fun w => w z)] at h; exact h
    · rw [if_pos z] at h; exact h
theorem xx_creating {i c : Nat} (hi : i < 24) (hc : c ≤ 5) (ec0 : cc i = nI c)
    (h : post (match bt_f (fun m => ¬ mc (5 * i + m) = 0) 0 c with | none => -1 | some m => mn (5 * i + m))) : wpX_creatingMember post (ls, tl, ec, kc, st, dr, nm, pa, ve, sz, it, sm, hl, th, sp, tb, dl, dn, cc, cv, mn, mc, oc, on, om, op, tr, el, cm) (nI i) :=
  ⟨c + 1, xx_creating_l hi hc ec0 c 0 (c + 1) (by omega) (by omega) h⟩
theorem xx_mix_l {i c : Nat} {x : Int32} (hi : i < 24) (hc : c ≤ 5) (ec0 : cc i = nI c) : ∀ (e j n : Nat), j + e = c → e < n →
    post (bt_o (bt_f (fun m => mn (5 * i + m) = x) j e)) → wX_memberIndex_2 post (nI i) x ls tl ec kc st dr nm pa ve sz it sm hl th sp tb dl dn cc cv mn mc oc on om op tr el cm n (nI j) := by
  have ix := bt_ix24 hi
  intro e
  induction e with
  | zero =>
    intro j n hj hn h
    obtain ⟨n, rfl⟩ : ∃ n', n = n' + 1 := ⟨n - 1, by omega⟩
    refine ⟨ix.2.2.2.2.1, ?_⟩
    rw [ix.2.2.2.2.2.1, ec0]
    exact br_t (nI_le (by omega) (by omega)) h
  | succ e ih =>
    intro j n hj hn h
    obtain ⟨n, rfl⟩ : ∃ n', n = n' + 1 := ⟨n - 1, by omega⟩
    have iy := bt_ix120 (q := 5 * i + j) (by omega)
    have e5 : nI i * 5 + nI j = nI (5 * i + j) := by rw [bt_m5, nI_add]
    simp only [bt_f] at h
    refine ⟨ix.2.2.2.2.1, ?_⟩
    rw [ix.2.2.2.2.2.1, ec0, e5, iy.2.2.2.2.2.1]
    refine br_f (nI_ge (by omega) (by omega)) ⟨iy.2.2.2.2.1, br_c (fun z => ?_) (fun z => nm_r (nI_1 _) (ih (j + 1) n (by omega) (by omega) ?_))⟩
    · rw [if_pos z] at h; exact h
    · rw [if_neg z] at h; exact h
theorem xx_mix {i c : Nat} {x : Int32} (hi : i < 24) (hc : c ≤ 5) (ec0 : cc i = nI c)
    (h : post (bt_o (bt_f (fun m => mn (5 * i + m) = x) 0 c))) : wpX_memberIndex post (ls, tl, ec, kc, st, dr, nm, pa, ve, sz, it, sm, hl, th, sp, tb, dl, dn, cc, cv, mn, mc, oc, on, om, op, tr, el, cm) (nI i) x :=
  ⟨c + 1, xx_mix_l hi hc ec0 c 0 (c + 1) (by omega) (by omega) h⟩
end
