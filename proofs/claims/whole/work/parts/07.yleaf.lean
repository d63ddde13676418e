section
variable {ls tl ec kc : Int32} {st dr nm pa ve sz it sm hl th sp tb dl dn cc cv mn mc oc on om op tr el cm : Nat → Int32} {es tt se fr : Int32} {sY tY dy dm vc ms me cr hd hN ps la ey tn tm sn sc fn fc : Nat → Int32} {post : Int32 → Prop}
theorem xx_after_l {d g : Int32} : ∀ (e i n : Nat) (b : Option Nat), (∀ m, b = some m → m < 48) → i + e = 48 → e < n → post (bt_o (bt_nx (fun n => (st n = 1 ∧ pa n = d) ∧ ¬ sm n ≤ g) sm i e b)) → wX_childMadeAfter_5 post d g ls tl ec kc st dr nm pa ve sz it sm hl th sp tb dl dn cc cv mn mc oc on om op tr el cm n (bt_o b) (nI i) := by
  intro e
  induction e with
  | zero =>
    intro i n b hb hi hn h
    obtain ⟨n, rfl⟩ : ∃ n', n = n' + 1 := ⟨n - 1, by omega⟩
    have : i = 48 := by omega
    subst this
    refine br_t (by decide) ?_
    cases b with
    | none => exact h
    | some b => exact h
  | succ e ih =>
    intro i n b hb hi hn h
    obtain ⟨n, rfl⟩ : ∃ n', n = n' + 1 := ⟨n - 1, by omega⟩
    have ix := bt_ix48 (q := i) (by omega)
    have hi48 : ∀ m, some i = some m → m < 48 := fun m hm => by cases hm; omega
    refine br_f ix.2.2.2.1 (xx_isChild (by omega) (fun y => br_f (by decide) ⟨ix.2.2.2.2.1, ?_⟩) (fun y => br_t rfl (nm_r (nI_1 _) (ih (i + 1) n b hb (by omega) (by omega) ?_))))
    · rw [ix.2.2.2.2.2.1]
      refine br_c (fun z => nm_r (nI_1 _) (ih (i + 1) n b hb (by omega) (by omega) ?_)) (fun z => ?_)
      · cases b with
        | none => simp only [bt_nx] at h; rw [if_neg (fun w => w.2 z)] at h; exact h
        | some b => simp only [bt_nx] at h; rw [if_neg (fun w => w.1.2 z)] at h; exact h
      · cases b with
        | none =>
          simp only [bt_nx] at h; rw [if_pos ⟨y, z⟩] at h
          exact br_t rfl (nm_r (nI_1 _) (ih (i + 1) n (some i) hi48 (by omega) (by omega) h))
        | some b =>
          have iy := bt_ix48 (q := b) (hb b rfl)
          refine br_f iy.2.2.2.2.2.2 ⟨ix.2.2.2.2.1, iy.2.2.2.2.1, ?_⟩
          simp only [bt_nx] at h
          show (sm (nI b).toNatClampNeg ≤ sm i → _) ∧ (¬ sm (nI b).toNatClampNeg ≤ sm i → _)
          rw [iy.2.2.2.2.2.1]
          refine br_c (fun w => nm_r (nI_1 _) (ih (i + 1) n (some b) hb (by omega) (by omega) ?_)) (fun w => nm_r (nI_1 _) (ih (i + 1) n (some i) hi48 (by omega) (by omega) ?_))
          · rw [if_neg (fun q => q.2 w)] at h; exact h
          · rw [if_pos ⟨⟨y, z⟩, w⟩] at h; exact h
    · cases b with
      | none => simp only [bt_nx] at h; rw [if_neg (fun w => y w.1)] at h; exact h
      | some b => simp only [bt_nx] at h; rw [if_neg (fun w => y w.1.1)] at h; exact h
theorem xx_after {d g : Int32} (h : post (bt_o (bt_nx (fun n => (st n = 1 ∧ pa n = d) ∧ ¬ sm n ≤ g) sm 3 45 none))) : wpX_childMadeAfter post (ls, tl, ec, kc, st, dr, nm, pa, ve, sz, it, sm, hl, th, sp, tb, dl, dn, cc, cv, mn, mc, oc, on, om, op, tr, el, cm) d g :=
  ⟨46, xx_after_l 45 3 46 none (fun m h => by cases h) rfl (by omega) h⟩
theorem yy_next_l {d g : Int32} : ∀ (e i n : Nat) (b : Option Nat), (∀ m, b = some m → m < 48) → i + e = 48 → e < n → post (bt_o (bt_nx (fun n => (st n = 1 ∧ pa n = d) ∧ ¬ sm n ≤ g) sm i e b)) → wY_nextChild_5 post d g ls es tt se fr st nm pa ve sz sm it dr th sY tY dl dy dm vc ms me cr hd hN ps la ey tn tm sn sc fn fc n (bt_o b) (nI i) := by
  intro e
  induction e with
  | zero =>
    intro i n b hb hi hn h
    obtain ⟨n, rfl⟩ : ∃ n', n = n' + 1 := ⟨n - 1, by omega⟩
    have : i = 48 := by omega
    subst this
    refine br_t (by decide) ?_
    cases b with
    | none => exact h
    | some b => exact h
  | succ e ih =>
    intro i n b hb hi hn h
    obtain ⟨n, rfl⟩ : ∃ n', n = n' + 1 := ⟨n - 1, by omega⟩
    have ix := bt_ix48 (q := i) (by omega)
    have hi48 : ∀ m, some i = some m → m < 48 := fun m hm => by cases hm; omega
    have no : ¬ ((st i = 1 ∧ pa i = d) ∧ ¬ sm i ≤ g) → wY_nextChild_49 post (wY_nextChild_5 post d g ls es tt se fr st nm pa ve sz sm it dr th sY tY dl dy dm vc ms me cr hd hN ps la ey tn tm sn sc fn fc n) d g (bt_o b) (nI i) ls es tt se fr st nm pa ve sz sm it dr th sY tY dl dy dm vc ms me cr hd hN ps la ey tn tm sn sc fn fc := by
      intro y
      refine br_t rfl (nm_r (nI_1 _) (ih (i + 1) n b hb (by omega) (by omega) ?_))
      cases b with
      | none => simp only [bt_nx] at h; rw [if_neg y] at h; exact h
      | some b => simp only [bt_nx] at h; rw [if_neg (fun w => y w.1)] at h; exact h
    refine br_f ix.2.2.2.1 ⟨ix.2.2.2.2.1, ?_⟩
    rw [ix.2.2.2.2.2.1]
    refine br_c (fun y1 => ⟨ix.2.2.2.2.1, br_c (fun y2 => ⟨ix.2.2.2.2.1, br_c (fun z => no (fun w => w.2 z)) (fun z => br_f (by decide) ?_)⟩) (fun y2 => no (fun w => y2 w.1.2))⟩) (fun y1 => no (fun w => y1 w.1.1))
    cases b with
    | none =>
      simp only [bt_nx] at h; rw [if_pos ⟨⟨y1, y2⟩, z⟩] at h
      exact br_t (by decide) (nm_r (nI_1 _) (ih (i + 1) n (some i) hi48 (by omega) (by omega) h))
    | some b =>
      have iy := bt_ix48 (q := b) (hb b rfl)
      refine br_f iy.1 ⟨ix.2.2.2.2.1, iy.2.2.2.2.1, ?_⟩
      simp only [bt_nx] at h
      show (sm (nI b).toNatClampNeg ≤ sm (nI i).toNatClampNeg → _) ∧ (¬ sm (nI b).toNatClampNeg ≤ sm (nI i).toNatClampNeg → _)
      rw [iy.2.2.2.2.2.1, ix.2.2.2.2.2.1]
      refine br_c (fun w => nm_r (nI_1 _) (ih (i + 1) n (some b) hb (by omega) (by omega) ?_)) (fun w => nm_r (nI_1 _) (ih (i + 1) n (some i) hi48 (by omega) (by omega) ?_))
      · rw [if_neg (fun q => q.2 w)] at h; exact h
      · rw [if_pos ⟨⟨⟨y1, y2⟩, z⟩, w⟩] at h; exact h
theorem yy_next {d g : Int32} (h : post (bt_o (bt_nx (fun n => (st n = 1 ∧ pa n = d) ∧ ¬ sm n ≤ g) sm 3 45 none))) : wpY_nextChild post (ls, es, tt, se, fr, st, nm, pa, ve, sz, sm, it, dr, th, sY, tY, dl, dy, dm, vc, ms, me, cr, hd, hN, ps, la, ey, tn, tm, sn, sc, fn, fc) d g :=
  ⟨46, yy_next_l 45 3 46 none (fun m h => by cases h) rfl (by omega) h⟩
theorem yy_isP1 {q : Nat} (hq : q < 4) (ht : th q ≠ 0) (h : post 1) : wpY_isProcess post (ls, es, tt, se, fr, st, nm, pa, ve, sz, sm, it, dr, th, sY, tY, dl, dy, dm, vc, ms, me, cr, hd, hN, ps, la, ey, tn, tm, sn, sc, fn, fc) (nI q) := by
  have ix := bt_ix4 hq
  refine br_f ix.1 (br_f ix.2.2.2.1 ⟨ix.2.2.2.2.1, br_f ?_ h⟩)
  rw [ix.2.2.2.2.2.1]; exact ht
theorem yy_isP0 {p : Int32} (hp : ¬ ∃ q, q < 4 ∧ p = nI q ∧ th q ≠ 0) (h : post 0) : wpY_isProcess post (ls, es, tt, se, fr, st, nm, pa, ve, sz, sm, it, dr, th, sY, tY, dl, dy, dm, vc, ms, me, cr, hd, hN, ps, la, ey, tn, tm, sn, sc, fn, fc) p := by
  by_cases a : p < 0
  · exact br_t a h
  refine br_f a ?_
  by_cases b : (4 : Int32) ≤ p
  · exact br_t b h
  refine br_f b ?_
  rcases pk_ix p (n := 4) (by decide) with c | c | ⟨j, hj, rfl⟩
  · exact absurd c a
  · exact absurd c b
  · have ix := bt_ix4 hj
    have z : th j = 0 := Classical.byContradiction fun z => hp ⟨j, hj, rfl, z⟩
    refine ⟨ix.2.2.2.2.1, br_t ?_ h⟩
    rw [ix.2.2.2.2.2.1]; exact z
theorem yy_children_l {d : Int32} : ∀ (e i n : Nat) (c : Int32), i + e = 48 → e < n → post (bt_ct (fun n => st n = 1 ∧ pa n = d) i e c) → wY_children_4 post d ls es tt se fr st nm pa ve sz sm it dr th sY tY dl dy dm vc ms me cr hd hN ps la ey tn tm sn sc fn fc n c (nI i) := by
  intro e
  induction e with
  | zero =>
    intro i n c hi hn h
    obtain ⟨n, rfl⟩ : ∃ n', n = n' + 1 := ⟨n - 1, by omega⟩
    have : i = 48 := by omega
    subst this
    exact br_t (by decide) h
  | succ e ih =>
    intro i n c hi hn h
    obtain ⟨n, rfl⟩ : ∃ n', n = n' + 1 := ⟨n - 1, by omega⟩
    have ix := bt_ix48 (q := i) (by omega)
    simp only [bt_ct] at h
    refine br_f ix.2.2.2.1 ⟨ix.2.2.2.2.1, ?_⟩
    rw [ix.2.2.2.2.2.1]
    refine br_c (fun y => ⟨ix.2.2.2.2.1, br_c (fun z => nm_e (nm_r (nI_1 _) (ih (i + 1) n _ (by omega) (by omega) ?_))) (fun z => nm_r (nI_1 _) (ih (i + 1) n _ (by omega) (by omega) ?_))⟩) (fun y => nm_r (nI_1 _) (ih (i + 1) n _ (by omega) (by omega) ?_))
    · rw [if_pos ⟨y, z⟩] at h; exact h
    · rw [if_neg (fun w => z w.2)] at h; exact h
    · rw [if_neg (fun w => y w.1)] at h; exact h
theorem yy_children {d : Int32} (h : post (bt_ct (fun n => st n = 1 ∧ pa n = d) 3 45 0)) : wpY_children post (ls, es, tt, se, fr, st, nm, pa, ve, sz, sm, it, dr, th, sY, tY, dl, dy, dm, vc, ms, me, cr, hd, hN, ps, la, ey, tn, tm, sn, sc, fn, fc) d :=
  ⟨46, yy_children_l 45 3 46 0 rfl (by omega) h⟩
theorem yy_coverOf_l {P : Nat → Prop} [DecidablePred P] {b : Nat} {x : Int32} (hb : b < 4) (hP : ∀ k, k < 6 → (vc (6 * b + k) = x ↔ P k)) :
    ∀ (e i n : Nat), i + e = 6 → e < n → post (bt_of (6 * b) (bt_f P i e)) → wY_coverOf_5 post (nI b) x ls es tt se fr st nm pa ve sz sm it dr th sY tY dl dy dm vc ms me cr hd hN ps la ey tn tm sn sc fn fc n (nI (6 * b + i)) := by
  have lim : 6 * nI b + 6 = nI (6 * b + 6) := by rw [bt_6m, bt_p6]
  intro e
  induction e with
  | zero =>
    intro i n hi hn h
    obtain ⟨n, rfl⟩ : ∃ n', n = n' + 1 := ⟨n - 1, by omega⟩
    have : i = 6 := by omega
    subst this
    refine br_t ?_ h
    rw [lim]; exact Int32.le_refl _
  | succ e ih =>
    intro i n hi hn h
    obtain ⟨n, rfl⟩ : ∃ n', n = n' + 1 := ⟨n - 1, by omega⟩
    have ix := bt_ix24 (q := 6 * b + i) (by omega)
    simp only [bt_f] at h
    refine br_f ?_ ⟨ix.2.2.2.2.1, ?_⟩
    · rw [lim]; exact nI_ge (by omega) (by omega)
    rw [ix.2.2.2.2.2.1]
    refine ek_if (hP i (by omega)) (fun z => ?_) (fun z => nm_r (nI_1 _) (ih (i + 1) n (by omega) (by omega) ?_))
    · rw [if_pos z] at h; exact h
    · rw [if_neg z] at h; exact h
theorem yy_coverOf {a b : Nat} {x : Int32} (hb : b < 4) (hC : ∀ k, k < 6 → bt_C st cc cv mn mc vc ms me cr (6 * a + k) (6 * b + k)) (hx : x ≠ -1)
    (h : post (bt_of (6 * b) (bt_cf cc cv a x))) : wpY_coverOf post (ls, es, tt, se, fr, st, nm, pa, ve, sz, sm, it, dr, th, sY, tY, dl, dy, dm, vc, ms, me, cr, hd, hN, ps, la, ey, tn, tm, sn, sc, fn, fc) (nI b) x := by
  refine nm_r (bt_6m b) ⟨7, yy_coverOf_l hb (fun k hk => ?_) 6 0 7 rfl (by omega) h⟩
  rcases hC k hk with ⟨u, w⟩ | ⟨c, c1, c5, u1, u2, u3, u4, u5⟩
  · exact ⟨fun z => absurd (z.symm.trans w) hx, fun z => absurd u z.1⟩
  · rw [u3]
    exact ⟨fun z => ⟨by rw [u1]; exact nI_ne0 (by omega) (by omega), z⟩, fun z => z.2⟩
theorem yy_free {a b : Nat} (hb : b < 4) (hC : ∀ k, k < 6 → bt_C st cc cv mn mc vc ms me cr (6 * a + k) (6 * b + k))
    (h : post (bt_of (6 * b) (bt_uf cc a))) : wpY_coverOf post (ls, es, tt, se, fr, st, nm, pa, ve, sz, sm, it, dr, th, sY, tY, dl, dy, dm, vc, ms, me, cr, hd, hN, ps, la, ey, tn, tm, sn, sc, fn, fc) (nI b) (-1) := by
  refine nm_r (bt_6m b) ⟨7, yy_coverOf_l hb (fun k hk => ?_) 6 0 7 rfl (by omega) h⟩
  rcases hC k hk with ⟨u, w⟩ | ⟨c, c1, c5, u1, u2, u3, u4, u5⟩
  · exact ⟨fun _ => u, fun _ => w⟩
  · rw [← u3, u1]
    exact ⟨fun z => absurd z (bt_Nx u4), fun z => absurd z (nI_ne0 (by omega) (by omega))⟩
theorem yy_look_l {post : SY → Prop} {j c : Nat} (hj : j < 24) (hc : c ≤ 5) (hB : ∀ i, bt_B (cr i))
    (h : ∀ sn2 sc2 : Nat → Int32, (∀ m, m < c → sn2 m = me (5 * j + m)) → (∀ m, m < c → sc2 m = cr (5 * j + m)) → post (ls, es, tt, nI c, fr, st, nm, pa, ve, sz, sm, it, dr, th, sY, tY, dl, dy, dm, vc, ms, me, cr, hd, hN, ps, la, ey, tn, tm, sn2, sc2, fn, fc)) :
    ∀ (e i n : Nat) (sn2 sc2 : Nat → Int32), i + e = c → e < n → (∀ m, m < i → sn2 m = me (5 * j + m)) → (∀ m, m < i → sc2 m = cr (5 * j + m)) →
      wY_look_47 post (nI j) ls es tt (nI c) fr n (nI i) st nm pa ve sz sm it dr th sY tY dl dy dm vc ms me cr hd hN ps la ey tn tm sn2 sc2 fn fc := by
  have ix := bt_ix24 hj
  intro e
  induction e with
  | zero =>
    intro i n sn2 sc2 hi hn h1 h2
    obtain ⟨n, rfl⟩ : ∃ n', n = n' + 1 := ⟨n - 1, by omega⟩
    have : i = c := by omega
    subst this
    exact br_f ix.1 (br_t (Int32.le_refl _) (h _ _ h1 h2))
  | succ e ih =>
    intro i n sn2 sc2 hi hn h1 h2
    obtain ⟨n, rfl⟩ : ∃ n', n = n' + 1 := ⟨n - 1, by omega⟩
    have iy := bt_ix120 (q := 5 * j + i) (by omega)
    have iz := bt_ix5 (q := i) (by omega)
    have e5 : 5 * nI j + nI i = nI (5 * j + i) := by rw [bt_5m, nI_add]
    refine br_f ix.1 (br_f (nI_ge (by omega) (by omega)) ?_)
    rw [e5, iy.2.2.2.2.2.1, iz.2.2.2.2.2.1, bt_nB (hB _)]
    refine ⟨iy.2.2.2.2.1, iz.2.2.2.2.1, nm_e ⟨iy.2.2.2.2.1, iz.2.2.2.2.1, nm_e (nm_r (nI_1 _) (ih (i + 1) n _ _ (by omega) (by omega) (fun m hm => ?_) (fun m hm => ?_)))⟩⟩
    · by_cases w : m = i
      · rw [w, pk_us]
      · rw [pk_un w]; exact h1 m (by omega)
    · by_cases w : m = i
      · rw [w, pk_us]
      · rw [pk_un w]; exact h2 m (by omega)
theorem yy_look {post : SY → Prop} {p a b c : Nat} {x : Int32} {o : Option Nat} (hp : p < 4) (hb : b < 4) (sb : sY p = nI b) (hB : ∀ i, bt_B (cr i))
    (hC : ∀ k, k < 6 → bt_C st cc cv mn mc vc ms me cr (6 * a + k) (6 * b + k)) (hx : bt_N st x) (ho : bt_cf cc cv a x = o) (hv : bt_vn cc a o = nI c) (c1 : 1 ≤ c) (c5 : c ≤ 5)
    (h : ∀ sn2 sc2 : Nat → Int32, (∀ m, m < c → sn2 m = bt_vg mn a x o m) → (o = none → sc2 0 = 0) → (∀ k, o = some k → ∀ m, m < c → sc2 m = mc (5 * (6 * a + k) + m)) → post (ls, es, tt, nI c, fr, st, nm, pa, ve, sz, sm, it, dr, th, sY, tY, dl, dy, dm, vc, ms, me, cr, hd, hN, ps, la, ey, tn, tm, sn2, sc2, fn, fc)) :
    wpY_look post (ls, es, tt, se, fr, st, nm, pa, ve, sz, sm, it, dr, th, sY, tY, dl, dy, dm, vc, ms, me, cr, hd, hN, ps, la, ey, tn, tm, sn, sc, fn, fc) (nI p) x := by
  have ip := bt_ix4 hp
  refine ⟨ip.2.2.2.2.1, ?_⟩
  rw [ip.2.2.2.2.2.1, sb]
  refine yy_coverOf hb hC (bt_Nx hx) ?_
  obtain ⟨c', _, c5', v', vN, v0, vS⟩ := bt_view hC hx
  rw [ho] at v' vN v0 vS ⊢
  have ec : c' = c := bt_inj (by omega) (by omega) (v'.symm.trans hv)
  subst ec
  cases o with
  | none =>
    have e1 : c' = 1 := v0 rfl
    subst e1
    refine br_f (show ¬ (0 : Int32) ≤ -1 by decide) (nm_e (nm_e ⟨1, br_t (show (-1 : Int32) < 0 by decide) (h _ _ (fun m hm => ?_) (fun _ => ?_) (fun k hk => by cases hk))⟩))
    · have : m = 0 := by omega
      rw [this]; exact pk_us
    · rw [pk_us]; exact bt_n0
  | some k =>
    obtain ⟨k6, u1, u2, u3, u4, u5⟩ := vS k rfl
    have ix := bt_ix24 (q := 6 * b + k) (by omega)
    refine br_t ix.2.1 ⟨ix.2.2.2.2.1, ?_⟩
    show wY_look_27 post x (nI (6 * b + k)) (ms (nI (6 * b + k)).toNatClampNeg) ls es tt se fr st nm pa ve sz sm it dr th sY tY dl dy dm vc ms me cr hd hN ps la ey tn tm sn sc fn fc
    rw [ix.2.2.2.2.2.1, u2]
    refine nm_e (nm_e ⟨c' + 1, yy_look_l (by omega) c5 hB (fun sn2 sc2 h1 h2 => h _ _ (fun m hm => ?_) (fun z => by cases z) (fun k' hk' m hm => ?_)) c' 0 (c' + 1) _ _ (by omega) (by omega) (fun m hm => by omega) (fun m hm => by omega)⟩)
    · rw [h1 m hm]; exact (u5 m hm).1.symm
    · cases hk'
      rw [h2 m hm]; exact (u5 m hm).2.1.symm
end
