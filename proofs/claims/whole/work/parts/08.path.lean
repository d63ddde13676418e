section
variable {ls tl ec kc : Int32} {st dr nm pa ve sz it sm hl th sp tb dl dn cc cv mn mc oc on om op tr el cm : Nat → Int32} {es tt se fr : Int32} {sY tY dy dm vc ms me cr hd hN ps la ey tn tm sn sc fn fc : Nat → Int32}
theorem yy_cs_l {post : Int32 → Prop} {J : Int32 → Prop} {y : Int32} {k : Nat} (hk : k < 5) : ∀ (e i n : Nat), i + e = 48 → e < n →
    (∀ m, bt_f (fun n => st n = 1 ∧ pa n = sn k ∧ nm n = y) i e = some m → post (nI m)) → (bt_f (fun n => st n = 1 ∧ pa n = sn k ∧ nm n = y) i e = none → J (nI (k + 1))) →
    wY_childSeen_12 post J y (nI k) ls es tt se fr st nm pa ve sz sm it dr th sY tY dl dy dm vc ms me cr hd hN ps la ey tn tm sn sc fn fc n (nI i) := by
  have iz := bt_ix5 hk
  intro e
  induction e with
  | zero =>
    intro i n hi hn h1 h2
    obtain ⟨n, rfl⟩ : ∃ n', n = n' + 1 := ⟨n - 1, by omega⟩
    have : i = 48 := by omega
    subst this
    exact br_t (by decide) (nm_r (nI_1 _) (h2 rfl))
  | succ e ih =>
    intro i n hi hn h1 h2
    obtain ⟨n, rfl⟩ : ∃ n', n = n' + 1 := ⟨n - 1, by omega⟩
    have ix := bt_ix48 (q := i) (by omega)
    simp only [bt_f] at h1 h2
    have no : ¬ (st i = 1 ∧ pa i = sn k ∧ nm i = y) → wY_childSeen_12 post J y (nI k) ls es tt se fr st nm pa ve sz sm it dr th sY tY dl dy dm vc ms me cr hd hN ps la ey tn tm sn sc fn fc n (nI (i + 1)) := by
      intro z
      rw [if_neg z] at h1 h2
      exact ih (i + 1) n (by omega) (by omega) h1 h2
    refine br_f ix.2.2.2.1 ⟨ix.2.2.2.2.1, ?_⟩
    rw [ix.2.2.2.2.2.1, iz.2.2.2.2.2.1]
    refine br_c (fun z1 => ⟨ix.2.2.2.2.1, iz.2.2.2.2.1, br_c (fun z2 => ⟨ix.2.2.2.2.1, br_c (fun z3 => h1 i (if_pos ⟨z1, z2, z3⟩)) (fun z3 => nm_r (nI_1 _) (no (fun w => z3 w.2.2)))⟩) (fun z2 => nm_r (nI_1 _) (no (fun w => z2 w.2.1)))⟩) (fun z1 => nm_r (nI_1 _) (no (fun w => z1 w.1)))
theorem yy_cs2_l {post : Int32 → Prop} {y : Int32} {c : Nat} {g : Nat → Int32} (hc : c ≤ 5) (hg : ∀ m, m < c → sn m = g m) : ∀ (e k n : Nat), k + e = c → e < n →
    post (bt_o (bt_lk (fun d => bt_ch st pa nm d y) g k e)) → wY_childSeen_2 post y ls es tt (nI c) fr st nm pa ve sz sm it dr th sY tY dl dy dm vc ms me cr hd hN ps la ey tn tm sn sc fn fc n (nI k) := by
  intro e
  induction e with
  | zero =>
    intro k n hk hn h
    obtain ⟨n, rfl⟩ : ∃ n', n = n' + 1 := ⟨n - 1, by omega⟩
    exact br_t (nI_le (by omega) (by omega)) h
  | succ e ih =>
    intro k n hk hn h
    obtain ⟨n, rfl⟩ : ∃ n', n = n' + 1 := ⟨n - 1, by omega⟩
    simp only [bt_lk] at h
    refine br_f (nI_ge (by omega) (by omega)) ⟨46, yy_cs_l (by omega) 45 3 46 rfl (by omega) (fun m hm => ?_) (fun hm => ?_)⟩
    · have hm' : bt_ch st pa nm (g k) y = some m := by rw [← hg k (by omega)]; exact hm
      rw [hm'] at h; exact h
    · have hm' : bt_ch st pa nm (g k) y = none := by rw [← hg k (by omega)]; exact hm
      rw [hm'] at h
      exact ih (k + 1) n (by omega) (by omega) h
theorem yy_childSeen {post : Int32 → Prop} {y : Int32} {c : Nat} {g : Nat → Int32} (hc : c ≤ 5) (hg : ∀ m, m < c → sn m = g m)
    (h : post (bt_o (bt_lk (fun d => bt_ch st pa nm d y) g 0 c))) : wpY_childSeen post (ls, es, tt, nI c, fr, st, nm, pa, ve, sz, sm, it, dr, th, sY, tY, dl, dy, dm, vc, ms, me, cr, hd, hN, ps, la, ey, tn, tm, sn, sc, fn, fc) y :=
  ⟨c + 1, yy_cs2_l hc hg c 0 (c + 1) (by omega) (by omega) h⟩
theorem xx_readE_l {m D : Nat} (hm : m < 2 ^ 31) (hD : bt_dg m D) (h6 : D ≤ 6) : ∀ (e i : Nat) (el : Nat → Int32), i + e = D → (∀ j, j < i → el j = nI (m / 11 ^ j % 11)) →
    ∃ el2 : Nat → Int32, (∀ j, j < D → el2 j = nI (m / 11 ^ j % 11)) ∧ ∀ (post : SX → Prop) (n : Nat), e < n → post (ls, tl, nI D, kc, st, dr, nm, pa, ve, sz, it, sm, hl, th, sp, tb, dl, dn, cc, cv, mn, mc, oc, on, om, op, tr, el2, cm) →
      wX_readElements_12 post ls tl kc n (nI (m / 11 ^ i)) (nI i) (nI i) st dr nm pa ve sz it sm hl th sp tb dl dn cc cv mn mc oc on om op tr el cm := by
  intro e
  induction e with
  | zero =>
    intro i el hi hj
    have : i = D := by omega
    subst this
    refine ⟨el, hj, fun post n hn h => ?_⟩
    obtain ⟨n, rfl⟩ : ∃ n', n = n' + 1 := ⟨n - 1, by omega⟩
    have z : m / 11 ^ i = 0 := Nat.eq_zero_of_not_pos (fun y => Nat.lt_irrefl _ ((hD.2 i).mpr y))
    refine br_c (fun _ => h) (fun _ => br_t ?_ h)
    rw [z]; decide
  | succ e ih =>
    intro i el hi hj
    obtain ⟨el2, a, f⟩ := ih (i + 1) (upd el i (nI (m / 11 ^ i % 11))) (by omega) (fun j hj2 => by
      by_cases w : j = i
      · rw [w, pk_us]
      · rw [pk_un w]; exact hj j (by omega))
    refine ⟨el2, a, fun post n hn h => ?_⟩
    obtain ⟨n, rfl⟩ : ∃ n', n = n' + 1 := ⟨n - 1, by omega⟩
    have ix := bt_ix6 (q := i) (by omega)
    have hp : 0 < m / 11 ^ i := (hD.2 i).mp (by omega)
    have nz : ¬ nI (m / 11 ^ i) ≤ 0 := fun z => by have := (bt_le0 (bt_dlt hm i)).mp z; omega
    refine br_f ix.2.2.2.1 (br_f nz ⟨bt_11, ix.2.2.2.2.1, ?_⟩)
    rw [ix.2.2.2.2.2.1, bt_r11 (bt_dlt hm i), bt_d11 (bt_dlt hm i), bt_dv, nI_1]
    exact nm_e (nm_e ⟨bt_11, nm_e (nm_e (f post n (by omega) h))⟩)
theorem xx_readE {x : Int32} {m D : Nat} (hm : bt_rw x m) (hD : bt_dg m D) (h6 : D ≤ 6) :
    ∃ el2 : Nat → Int32, (∀ j, j < D → el2 j = nI (m / 11 ^ j % 11)) ∧ ∀ (post : SX → Prop), post (ls, tl, nI D, kc, st, dr, nm, pa, ve, sz, it, sm, hl, th, sp, tb, dl, dn, cc, cv, mn, mc, oc, on, om, op, tr, el2, cm) → wpX_readElements post (ls, tl, ec, kc, st, dr, nm, pa, ve, sz, it, sm, hl, th, sp, tb, dl, dn, cc, cv, mn, mc, oc, on, om, op, tr, el, cm) x := by
  obtain ⟨el2, a, f⟩ := xx_readE_l (ls := ls) (tl := tl) (kc := kc) (st := st) (dr := dr) (nm := nm) (pa := pa) (ve := ve) (sz := sz) (it := it) (sm := sm) (hl := hl) (th := th) (sp := sp) (tb := tb) (dl := dl) (dn := dn) (cc := cc) (cv := cv) (mn := mn) (mc := mc) (oc := oc) (on := on) (om := om) (op := op) (tr := tr) (cm := cm) hm.1 hD h6 D 0 el (by omega) (fun j h => by omega)
  refine ⟨el2, a, fun post h => ?_⟩
  unfold wpX_readElements
  refine xx_row hm ⟨D + 1, ?_⟩
  have := f post (D + 1) (by omega) h
  rw [Nat.pow_zero, Nat.div_one] at this
  exact this
theorem xx_begin_l {p L : Nat} (hp : p < 4) (hL : L ≤ 7) : ∀ (e i : Nat) (tr : Nat → Int32), i + e = L → (∀ j, j < i → tr j = dn (7 * p + j)) →
    ∃ tr2 : Nat → Int32, (∀ j, j < L → tr2 j = dn (7 * p + j)) ∧ ∀ (post : SX → Prop) (n : Nat), e < n → post (ls, nI L, ec, kc, st, dr, nm, pa, ve, sz, it, sm, hl, th, sp, tb, dl, dn, cc, cv, mn, mc, oc, on, om, op, tr2, el, cm) →
      wX_beginTrail_20 post (nI p) ls (nI L) ec kc n (nI i) st dr nm pa ve sz it sm hl th sp tb dl dn cc cv mn mc oc on om op tr el cm := by
  intro e
  induction e with
  | zero =>
    intro i tr hi hj
    have : i = L := by omega
    subst this
    refine ⟨tr, hj, fun post n hn h => ?_⟩
    obtain ⟨n, rfl⟩ : ∃ n', n = n' + 1 := ⟨n - 1, by omega⟩
    exact br_t (Int32.le_refl _) h
  | succ e ih =>
    intro i tr hi hj
    obtain ⟨tr2, a, f⟩ := ih (i + 1) (upd tr i (dn (7 * p + i))) (by omega) (fun j hj2 => by
      by_cases w : j = i
      · rw [w, pk_us]
      · rw [pk_un w]; exact hj j (by omega))
    refine ⟨tr2, a, fun post n hn h => ?_⟩
    obtain ⟨n, rfl⟩ : ∃ n', n = n' + 1 := ⟨n - 1, by omega⟩
    have ix := bt_ix7 (q := i) (by omega)
    have iy := bt_ix28 (q := 7 * p + i) (by omega)
    have e7 : nI p * 7 + nI i = nI (7 * p + i) := by rw [bt_m7, nI_add]
    refine br_f (nI_ge (by omega) (by omega)) ?_
    rw [e7, iy.2.2.2.2.2.1, ix.2.2.2.2.2.1, nI_1]
    exact ⟨iy.2.2.2.2.1, ix.2.2.2.2.1, nm_e (nm_e (f post n (by omega) h))⟩
theorem xx_begin {x : Int32} {p L : Nat} (hp : p < 4) (hL : L ≤ 7) (h1 : x < 0 → L = 1) (h2 : ¬ x < 0 → dl p = nI L) :
    ∃ tr2 : Nat → Int32, (∀ j, j < L → tr2 j = dn (7 * p + j)) ∧ ∀ (post : SX → Prop), post (ls, nI L, ec, kc, st, dr, nm, pa, ve, sz, it, sm, hl, th, sp, tb, dl, dn, cc, cv, mn, mc, oc, on, om, op, tr2, el, cm) → wpX_beginTrail post (ls, tl, ec, kc, st, dr, nm, pa, ve, sz, it, sm, hl, th, sp, tb, dl, dn, cc, cv, mn, mc, oc, on, om, op, tr, el, cm) (nI p) x := by
  obtain ⟨tr2, a, f⟩ := xx_begin_l (ls := ls) (ec := ec) (kc := kc) (st := st) (dr := dr) (nm := nm) (pa := pa) (ve := ve) (sz := sz) (it := it) (sm := sm) (hl := hl) (th := th) (sp := sp) (tb := tb) (dl := dl) (dn := dn) (cc := cc) (cv := cv) (mn := mn) (mc := mc) (oc := oc) (on := on) (om := om) (op := op) (el := el) (cm := cm) hp hL L 0 tr (by omega) (fun j h => by omega)
  refine ⟨tr2, a, fun post h => ?_⟩
  have ip := bt_ix4 hp
  by_cases z : x < 0
  · refine br_f (bt_neg0 z) ⟨L + 1, ?_⟩
    have := f post (L + 1) (by omega) h
    rw [h1 z] at this ⊢
    exact this
  · refine br_t (Int32.not_lt.mp z) ⟨ip.2.2.2.2.1, nm_r ?_ ⟨L + 1, f post (L + 1) (by omega) h⟩⟩
    rw [ip.2.2.2.2.2.1]; exact h2 z
theorem bt_am1 (x : Int32) : x + (-1) = x - 1 := by grind
theorem yy_split_b {post : Int32 → SY → Prop} {m D : Nat} (hm : m < 2 ^ 31) (hD : bt_dg m D) (h6 : D ≤ 6)
    (h1 : bt_g m D → ∀ ey2 : Nat → Int32, (∀ k, k < D → ey2 k = nI (m / 11 ^ (D - 1 - k) % 11)) → post 1 (ls, nI D, tt, se, fr, st, nm, pa, ve, sz, sm, it, dr, th, sY, tY, dl, dy, dm, vc, ms, me, cr, hd, hN, ps, la, ey2, tn, tm, sn, sc, fn, fc))
    (h0 : ¬ bt_g m D → ∀ ey2 : Nat → Int32, post 0 (ls, 0, tt, se, fr, st, nm, pa, ve, sz, sm, it, dr, th, sY, tY, dl, dy, dm, vc, ms, me, cr, hd, hN, ps, la, ey2, tn, tm, sn, sc, fn, fc)) :
    ∀ (e n : Nat) (ey2 : Nat → Int32), e ≤ D → e < n → (∀ k, e ≤ k → k < D → ey2 k = nI (m / 11 ^ (D - 1 - k) % 11)) → (∀ j, j < D - e → m / 11 ^ j % 11 ≠ 0) →
      wY_split_56 post (nI D) ls 0 tt se fr n (nI (m / 11 ^ (D - e))) (nI e - 1) st nm pa ve sz sm it dr th sY tY dl dy dm vc ms me cr hd hN ps la ey2 tn tm sn sc fn fc := by
  intro e
  induction e with
  | zero =>
    intro n ey2 he hn hk hj
    obtain ⟨n, rfl⟩ : ∃ n', n = n' + 1 := ⟨n - 1, by omega⟩
    exact br_t (by decide) (h1 ⟨h6, fun j h => hj j (by omega)⟩ ey2 (fun k h => hk k (by omega) h))
  | succ e ih =>
    intro n ey2 he hn hk hj
    obtain ⟨n, rfl⟩ : ∃ n', n = n' + 1 := ⟨n - 1, by omega⟩
    have ix := bt_ix6 (q := e) (by omega)
    rw [nI_pred]
    refine br_f ix.1 ⟨bt_11, ix.2.2.2.2.1, ?_⟩
    rw [ix.2.2.2.2.2.1, bt_r11 (bt_dlt hm _), bt_d11 (bt_dlt hm _), bt_dv, bt_am1]
    refine nm_e ⟨ix.2.2.2.2.1, ?_⟩
    rw [pk_us]
    refine ek_if (bt_e0 (by omega)) (fun z => h0 (fun g => g.2 _ (by omega) z) _) (fun z => ⟨bt_11, nm_e (nm_e ?_)⟩)
    have e1 : D - (e + 1) + 1 = D - e := by omega
    rw [e1]
    refine ih n _ (by omega) (by omega) (fun k h1 h2 => ?_) (fun j h => ?_)
    · by_cases w : k = e
      · rw [w, pk_us]
        have : D - (e + 1) = D - 1 - e := by omega
        rw [this]
      · rw [pk_un w]; exact hk k (by omega) h2
    · by_cases w : j = D - (e + 1)
      · rw [w]; exact z
      · exact hj j (by omega)
theorem yy_split_a {post : Int32 → SY → Prop} {m D : Nat} (hm : m < 2 ^ 31) (hD : bt_dg m D)
    (h1 : bt_g m D → ∀ ey2 : Nat → Int32, (∀ k, k < D → ey2 k = nI (m / 11 ^ (D - 1 - k) % 11)) → post 1 (ls, nI D, tt, se, fr, st, nm, pa, ve, sz, sm, it, dr, th, sY, tY, dl, dy, dm, vc, ms, me, cr, hd, hN, ps, la, ey2, tn, tm, sn, sc, fn, fc))
    (h0 : ¬ bt_g m D → ∀ ey2 : Nat → Int32, post 0 (ls, 0, tt, se, fr, st, nm, pa, ve, sz, sm, it, dr, th, sY, tY, dl, dy, dm, vc, ms, me, cr, hd, hN, ps, la, ey2, tn, tm, sn, sc, fn, fc)) :
    ∀ (e i n : Nat), i + e = D → e < n → wY_split_22 post (nI m) ls 0 tt se fr st nm pa ve sz sm it dr th sY tY dl dy dm vc ms me cr hd hN ps la ey tn tm sn sc fn fc n (nI i) (nI (m / 11 ^ i)) := by
  intro e
  induction e with
  | zero =>
    intro i n hi hn
    obtain ⟨n, rfl⟩ : ∃ n', n = n' + 1 := ⟨n - 1, by omega⟩
    have : i = D := by omega
    subst this
    have z : m / 11 ^ i = 0 := Nat.eq_zero_of_not_pos (fun y => Nat.lt_irrefl _ ((hD.2 i).mpr y))
    have h9 := hD.1
    refine br_t (by rw [z]; decide) (pk_le i 6 (fun h6 => nm_e ⟨i + 1, ?_⟩) (fun h6 => h0 (fun g => by have := g.1; omega) _))
    have := yy_split_b (post := post) hm hD h6 h1 h0 i (i + 1) ey (Nat.le_refl _) (by omega) (fun k a b => by omega) (fun j h => by omega)
    rw [Nat.sub_self, Nat.pow_zero, Nat.div_one] at this
    exact this
  | succ e ih =>
    intro i n hi hn
    obtain ⟨n, rfl⟩ : ∃ n', n = n' + 1 := ⟨n - 1, by omega⟩
    have hp : 0 < m / 11 ^ i := (hD.2 i).mp (by omega)
    have nz : ¬ nI (m / 11 ^ i) ≤ 0 := fun z => by have := (bt_le0 (bt_dlt hm i)).mp z; omega
    refine br_f nz (nm_r (nI_1 i) ⟨bt_11, nm_r ((bt_d11 (bt_dlt hm i)).trans (by rw [bt_dv])) (ih (i + 1) n (by omega) (by omega))⟩)
theorem yy_split {post : Int32 → SY → Prop} {x : Int32} {m D : Nat} (hm : bt_rw x m) (hD : bt_dg m D)
    (h1 : bt_g m D → ∀ ey2 : Nat → Int32, (∀ k, k < D → ey2 k = nI (m / 11 ^ (D - 1 - k) % 11)) → post 1 (ls, nI D, tt, se, fr, st, nm, pa, ve, sz, sm, it, dr, th, sY, tY, dl, dy, dm, vc, ms, me, cr, hd, hN, ps, la, ey2, tn, tm, sn, sc, fn, fc))
    (h0 : ¬ bt_g m D → ∀ ey2 : Nat → Int32, post 0 (ls, 0, tt, se, fr, st, nm, pa, ve, sz, sm, it, dr, th, sY, tY, dl, dy, dm, vc, ms, me, cr, hd, hN, ps, la, ey2, tn, tm, sn, sc, fn, fc)) : wpY_split post (ls, es, tt, se, fr, st, nm, pa, ve, sz, sm, it, dr, th, sY, tY, dl, dy, dm, vc, ms, me, cr, hd, hN, ps, la, ey, tn, tm, sn, sc, fn, fc) x := by
  have key : wY_split_11 post (nI m) ls es tt se fr st nm pa ve sz sm it dr th sY tY dl dy dm vc ms me cr hd hN ps la ey tn tm sn sc fn fc := by
    have := yy_split_a (post := post) (ey := ey) hm.1 hD h1 h0 D 0 (D + 1) (by omega) (by omega)
    rw [Nat.pow_zero, Nat.div_one] at this
    exact ⟨D + 1, this⟩
  rcases hm with ⟨_, ⟨a, b, e⟩ | ⟨a, b, e⟩⟩
  · refine br_f b ?_
    rw [e]; exact key
  · refine br_t b ?_
    rw [e]; exact key
end
