section
variable {ls tl ec kc : Int32} {st dr nm pa ve sz it sm hl th sp tb dl dn cc cv mn mc oc on om op tr el cm : Nat → Int32} {es tt se fr : Int32} {sY tY dy dm vc ms me cr hd hN ps la ey tn tm sn sc fn fc : Nat → Int32} {s s' t t' : Nat → Nat}
theorem dot_l {p L : Nat} (hp : p < 4) (L7 : L ≤ 7) (eL : dl p = nI L) (f : ∀ i, i < L → ∃ n, n < 48 ∧ dn (7 * p + i) = nI n ∧ (1 ≤ i → dm (7 * p + i) = nm n)) :
    ∀ (e i : Nat) (row : Int32), 1 ≤ i → i + e = L → ∃ r : Int32, (∀ (post : Int32 → Prop) (n : Nat), e < n → post r → wX_dot_14 post (nI p) ls tl ec kc st dr nm pa ve sz it sm hl th sp tb dl dn cc cv mn mc oc on om op tr el cm n row (nI i)) ∧
      (∀ (post : Int32 → Prop) (n : Nat), e < n → post r → wY_dot_14 post (nI p) ls es tt se fr st nm pa ve sz sm it dr th sY tY dl dy dm vc ms me cr hd hN ps la ey tn tm sn sc fn fc n row (nI i)) := by
  have ip := bt_ix4 hp
  intro e
  induction e with
  | zero =>
    intro i row h1 hi
    have : i = L := by omega
    subst this
    refine ⟨-1 - row, fun post n hn h => ?_, fun post n hn h => ?_⟩
    · obtain ⟨n, rfl⟩ : ∃ n', n = n' + 1 := ⟨n - 1, by omega⟩
      refine ⟨ip.2.2.2.2.1, br_t ?_ h⟩
      rw [ip.2.2.2.2.2.1, eL]; exact Int32.le_refl _
    · obtain ⟨n, rfl⟩ : ∃ n', n = n' + 1 := ⟨n - 1, by omega⟩
      refine ⟨ip.2.2.2.2.1, br_t ?_ h⟩
      rw [ip.2.2.2.2.2.1, eL]; exact Int32.le_refl _
  | succ e ih =>
    intro i row h1 hi
    obtain ⟨q, hq, eq, gq⟩ := f i (by omega)
    have iq := bt_ix48 hq
    have iy := bt_ix28 (q := 7 * p + i) (by omega)
    have e7 : nI p * 7 + nI i = nI (7 * p + i) := by rw [bt_m7, nI_add]
    have e7' : 7 * nI p + nI i = nI (7 * p + i) := by rw [bt_7m, nI_add]
    obtain ⟨r, fX, fY⟩ := ih (i + 1) (row * 11 + nm q) (by omega) (by omega)
    refine ⟨r, fun post n hn h => ?_, fun post n hn h => ?_⟩
    · obtain ⟨n, rfl⟩ : ∃ n', n = n' + 1 := ⟨n - 1, by omega⟩
      refine ⟨ip.2.2.2.2.1, ?_⟩
      rw [ip.2.2.2.2.2.1, eL, e7, iy.2.2.2.2.2.1, eq]
      refine br_f (nI_ge (by omega) (by omega)) ⟨iy.2.2.2.2.1, nm_e ⟨iq.2.2.2.2.1, ?_⟩⟩
      rw [iq.2.2.2.2.2.1]
      exact nm_e (nm_r (nI_1 _) (fX post n (by omega) h))
    · obtain ⟨n, rfl⟩ : ∃ n', n = n' + 1 := ⟨n - 1, by omega⟩
      refine ⟨ip.2.2.2.2.1, ?_⟩
      rw [ip.2.2.2.2.2.1, eL, e7', iy.2.2.2.2.2.1, gq h1]
      exact br_f (nI_ge (by omega) (by omega)) ⟨iy.2.2.2.2.1, nm_r (by rw [Int32.mul_comm]) (nm_r (nI_1 _) (fY post n (by omega) h))⟩
theorem xx_pc_l {post : Int32 → Prop} : ∀ (e i n : Nat) (c : Int32), i + e = 4 → e < n → post (bt_ct (fun p => ¬ th p = 0) i e c) → wX_processCount_4 post ls tl ec kc st dr nm pa ve sz it sm hl th sp tb dl dn cc cv mn mc oc on om op tr el cm n c (nI i) := by
  intro e
  induction e with
  | zero =>
    intro i n c hi hn h
    obtain ⟨n, rfl⟩ : ∃ n', n = n' + 1 := ⟨n - 1, by omega⟩
    have : i = 4 := by omega
    subst this
    exact br_t (by decide) h
  | succ e ih =>
    intro i n c hi hn h
    obtain ⟨n, rfl⟩ : ∃ n', n = n' + 1 := ⟨n - 1, by omega⟩
    have ix := bt_ix4 (q := i) (by omega)
    simp only [bt_ct] at h
    refine br_f ix.2.2.2.1 ⟨ix.2.2.2.2.1, ?_⟩
    rw [ix.2.2.2.2.2.1]
    refine br_c (fun z => nm_r (nI_1 _) (ih (i + 1) n _ (by omega) (by omega) ?_)) (fun z => nm_e (nm_r (nI_1 _) (ih (i + 1) n _ (by omega) (by omega) ?_)))
    · rw [if_neg (fun w => w z)] at h; exact h
    · rw [if_pos z] at h; exact h
theorem xx_pc {post : Int32 → Prop} (h : post (bt_ct (fun p => ¬ th p = 0) 0 4 0)) : wpX_processCount post (ls, tl, ec, kc, st, dr, nm, pa, ve, sz, it, sm, hl, th, sp, tb, dl, dn, cc, cv, mn, mc, oc, on, om, op, tr, el, cm) :=
  ⟨5, xx_pc_l 4 0 5 0 rfl (by omega) h⟩
theorem yy_ex_l {post : Int32 → SY → Prop} {x1 c' : Int32} (h : wY_exit_14 post x1 ls es tt se fr st nm pa ve sz sm it dr th sY tY dl dy dm vc ms me cr hd hN ps la ey tn tm sn sc fn fc 1 c' 4) : ∀ (e i n : Nat) (c : Int32), i + e = 4 → e < n → bt_ct (fun p => ¬ th p = 0) i e c = c' → wY_exit_14 post x1 ls es tt se fr st nm pa ve sz sm it dr th sY tY dl dy dm vc ms me cr hd hN ps la ey tn tm sn sc fn fc n c (nI i) := by
  intro e
  induction e with
  | zero =>
    intro i n c hi hn hc
    obtain ⟨n, rfl⟩ : ∃ n', n = n' + 1 := ⟨n - 1, by omega⟩
    have : i = 4 := by omega
    subst this
    have hc' : c = c' := hc
    subst hc'
    exact br_t (by decide) (h.1 (by decide))
  | succ e ih =>
    intro i n c hi hn hc
    obtain ⟨n, rfl⟩ : ∃ n', n = n' + 1 := ⟨n - 1, by omega⟩
    have ix := bt_ix4 (q := i) (by omega)
    simp only [bt_ct] at hc
    refine br_f ix.2.2.2.1 ⟨ix.2.2.2.2.1, ?_⟩
    rw [ix.2.2.2.2.2.1]
    refine br_c (fun z => nm_r (nI_1 _) (ih (i + 1) n _ (by omega) (by omega) ?_)) (fun z => nm_e (nm_r (nI_1 _) (ih (i + 1) n _ (by omega) (by omega) ?_)))
    · rw [if_neg (fun w => w z)] at hc; exact hc
    · rw [if_pos z] at hc; exact hc
end
theorem i_vc_dot {k : Nat} {u : SX} {v : SY} (I : i_Rel k u v) (hk : k + 6 ≤ 3072) (v1 : Int32) : wpX_dot (fun r => wpY_dot (fun r' => r' = r ∧ i_Rel (k + 6) u v) v v1) u v1 := by
  obtain ⟨ls, tl, ec, kc, es, tt, se, fr, st, dr, nm, pa, ve, sz, it, sm, hl, th, sp, tb, dl, dn, cc, cv, mn, mc, oc, on, om, op, tr, el, cm, sY, tY, dy, dm, vc, ms, me, cr, hd, hN, ps, la, ey, tn, tm, sn, sc, fn, fc, s, s', t, t', rfl, rfl, R⟩ := I
  unfold wpX_dot wpY_dot
  by_cases hn : ∃ q, q < 4 ∧ v1 = nI q ∧ th q ≠ 0
  · obtain ⟨p, hp, rfl, tp⟩ := hn
    obtain ⟨L, L1, L7, eL, d0, f⟩ := (R.2.2.2.2.2 p hp tp).1
    obtain ⟨r, fX, fY⟩ := dot_l (ls := ls) (tl := tl) (ec := ec) (kc := kc) (st := st) (dr := dr) (nm := nm) (pa := pa) (ve := ve) (sz := sz) (it := it) (sm := sm) (hl := hl) (th := th) (sp := sp) (tb := tb) (dl := dl) (dn := dn) (cc := cc) (cv := cv) (mn := mn) (mc := mc) (oc := oc) (on := on) (om := om) (op := op) (tr := tr) (el := el) (cm := cm) (es := es) (tt := tt) (se := se) (fr := fr) (sY := sY) (tY := tY) (dy := dy) (dm := dm) (vc := vc) (ms := ms) (me := me) (cr := cr) (hd := hd) (hN := hN) (ps := ps) (la := la) (ey := ey) (tn := tn) (tm := tm) (sn := sn) (sc := sc) (fn := fn) (fc := fc) hp L7 eL (fun i hi => by
      obtain ⟨_, n, a, b, _, d⟩ := f i hi
      exact ⟨n, a, b, d⟩) (L - 1) 1 0 (Nat.le_refl _) (by omega)
    exact xx_isP1 hp tp (br_f (by decide) ⟨L, fX _ L (by omega) (yy_isP1 hp tp (br_f (by decide) ⟨L, fY _ L (by omega) ⟨rfl, bt_mkR R⟩⟩))⟩)
  · exact xx_isP0 hn (br_t rfl (yy_isP0 hn (br_t rfl ⟨rfl, bt_mkR R⟩)))
theorem bt_47 {x : Int32} (h : (48 : Int32) ≤ x) : ¬ x < 0 ∧ ¬ x ≤ 47 ∧ 47 < x := by
  have a : (47 : Int32) < x := Int32.lt_of_lt_of_le (by decide) h
  exact ⟨Int32.not_lt.mpr (Int32.le_trans (by decide) h), Int32.not_le.mpr a, a⟩
theorem bt_le47 {j : Nat} (h : j < 48) : nI j ≤ 47 ∧ ¬ 47 < nI j := by
  have a : nI j ≤ nI 47 := nI_le (by omega) (by omega)
  exact ⟨a, Int32.not_lt.mpr a⟩
theorem i_vc_state {k : Nat} {u : SX} {v : SY} (I : i_Rel k u v) (hk : k + 6 ≤ 3072) (v1 : Int32) : wpX_state (fun r => wpY_state (fun r' => r' = r ∧ i_Rel (k + 6) u v) v v1) u v1 := by
  obtain ⟨ls, tl, ec, kc, es, tt, se, fr, st, dr, nm, pa, ve, sz, it, sm, hl, th, sp, tb, dl, dn, cc, cv, mn, mc, oc, on, om, op, tr, el, cm, sY, tY, dy, dm, vc, ms, me, cr, hd, hN, ps, la, ey, tn, tm, sn, sc, fn, fc, s, s', t, t', rfl, rfl, R⟩ := I
  unfold wpX_state wpY_state
  rcases pk_ix v1 (n := 48) (by decide) with a | a | ⟨j, hj, rfl⟩
  · exact br_t a (br_t rfl (br_t a ⟨rfl, bt_mkR R⟩))
  · have w := bt_47 a
    exact br_f w.1 (br_t a (br_t rfl (br_f w.1 (br_f w.2.1 ⟨rfl, bt_mkR R⟩))))
  · have ix := bt_ix48 hj
    have w := bt_le47 hj
    exact br_f ix.1 (br_f ix.2.2.2.1 (br_f (by decide) ⟨ix.2.2.2.2.1, br_f ix.1 (br_t w.1 ⟨ix.2.2.2.2.1, rfl, bt_mkR R⟩)⟩))
theorem i_vc_about {k : Nat} {u : SX} {v : SY} (I : i_Rel k u v) (hk : k + 6 ≤ 3072) (v1 : Int32) (v2 : Int32) : wpX_about (fun r => wpY_about (fun r' => r' = r ∧ i_Rel (k + 6) u v) v v1 v2) u v1 v2 := by
  obtain ⟨ls, tl, ec, kc, es, tt, se, fr, st, dr, nm, pa, ve, sz, it, sm, hl, th, sp, tb, dl, dn, cc, cv, mn, mc, oc, on, om, op, tr, el, cm, sY, tY, dy, dm, vc, ms, me, cr, hd, hN, ps, la, ey, tn, tm, sn, sc, fn, fc, s, s', t, t', rfl, rfl, R⟩ := I
  unfold wpX_about wpY_about
  rcases pk_ix v1 (n := 48) (by decide) with a | a | ⟨j, hj, rfl⟩
  · exact br_t a (br_t rfl (br_t a ⟨rfl, bt_mkR R⟩))
  · have w := bt_47 a
    exact br_f w.1 (br_t a (br_t rfl (br_f w.1 (br_t w.2.2 ⟨rfl, bt_mkR R⟩))))
  · have ix := bt_ix48 hj
    have w := bt_le47 hj
    have i1 := ix.2.2.2.2.1
    refine br_f ix.1 (br_f ix.2.2.2.1 (br_f (by decide) ⟨i1, ?_⟩))
    rw [ix.2.2.2.2.2.1]
    by_cases z : st j = 0
    · exact br_t z (br_f ix.1 (br_f w.2 ⟨i1, br_t z ⟨rfl, bt_mkR R⟩⟩))
    · refine br_f z ?_
      by_cases w0 : v2 < 0
      · exact br_t w0 (br_f ix.1 (br_f w.2 ⟨i1, br_f z (br_t w0 ⟨rfl, bt_mkR R⟩)⟩))
      by_cases w4 : 4 < v2
      · exact br_f w0 (br_t w4 (br_f ix.1 (br_f w.2 ⟨i1, br_f z (br_f w0 (br_t w4 ⟨rfl, bt_mkR R⟩))⟩)))
      refine br_f w0 (br_f w4 ?_)
      by_cases e0 : v2 = 0
      · exact br_t e0 ⟨i1, br_f ix.1 (br_f w.2 ⟨i1, br_f z (br_f w0 (br_f w4 (br_t e0 ⟨i1, rfl, bt_mkR R⟩)))⟩)⟩
      by_cases e1 : v2 = 1
      · refine br_f e0 (br_t e1 ⟨i1, br_f ix.1 (br_f w.2 ⟨i1, br_f z (br_f w0 (br_f w4 (br_f e0 (br_t e1 ⟨i1, ?_⟩))))⟩)⟩)
        exact br_c (fun _ => ⟨i1, rfl, bt_mkR R⟩) (fun d => ⟨((R.1.2.2 j hj).2.2 d).symm, bt_mkR R⟩)
      by_cases e2 : v2 = 2
      · exact br_f e0 (br_f e1 (br_t e2 (xx_childCount (br_f ix.1 (br_f w.2 ⟨i1, br_f z (br_f w0 (br_f w4 (br_f e0 (br_f e1 (br_t e2 (yy_children ⟨rfl, bt_mkR R⟩))))))⟩)))))
      by_cases e3 : v2 = 3
      · exact br_f e0 (br_f e1 (br_f e2 (br_t e3 ⟨i1, br_f ix.1 (br_f w.2 ⟨i1, br_f z (br_f w0 (br_f w4 (br_f e0 (br_f e1 (br_f e2 (br_t e3 ⟨i1, rfl, bt_mkR R⟩))))))⟩)⟩)))
      by_cases e4 : v2 = 4
      · exact br_f e0 (br_f e1 (br_f e2 (br_f e3 (br_t e4 ⟨i1, br_f ix.1 (br_f w.2 ⟨i1, br_f z (br_f w0 (br_f w4 (br_f e0 (br_f e1 (br_f e2 (br_f e3 (br_t e4 ⟨i1, rfl, bt_mkR R⟩)))))))⟩)⟩))))
      · exact br_f e0 (br_f e1 (br_f e2 (br_f e3 (br_f e4 trivial))))
theorem i_vc_exit {k : Nat} {u : SX} {v : SY} (I : i_Rel k u v) (hk : k + 6 ≤ 3072) (v1 : Int32) : wpX_exit (fun r u' => wpY_exit (fun r' v' => r' = r ∧ i_Rel (k + 6) u' v') v v1) u v1 := by
  obtain ⟨ls, tl, ec, kc, es, tt, se, fr, st, dr, nm, pa, ve, sz, it, sm, hl, th, sp, tb, dl, dn, cc, cv, mn, mc, oc, on, om, op, tr, el, cm, sY, tY, dy, dm, vc, ms, me, cr, hd, hN, ps, la, ey, tn, tm, sn, sc, fn, fc, s, s', t, t', rfl, rfl, R⟩ := I
  unfold wpX_exit wpY_exit
  by_cases hn : ∃ q, q < 4 ∧ v1 = nI q ∧ th q ≠ 0
  · obtain ⟨p, hp, rfl, tp⟩ := hn
    have ip := bt_ix4 hp
    have eY := bt_ct_a (P := fun p => ¬ th p = 0) 4 0 (-1)
    refine xx_isP1 hp tp (br_f (by decide) (xx_pc ?_))
    by_cases one : bt_ct (fun p => ¬ th p = 0) 0 4 0 = 1
    · refine br_t one (yy_isP1 hp tp (br_f (by decide) ⟨5, yy_ex_l ?_ 4 0 5 (-1) rfl (by omega) rfl⟩))
      refine br_t (by decide) (br_t ?_ ⟨rfl, bt_mkR R⟩)
      rw [eY, one]; decide
    · have nz : ¬ bt_ct (fun p => ¬ th p = 0) 0 4 (-1) = 0 := by
        intro z
        rw [eY] at z
        exact one (by grind)
      have R' := bt_del (c := p) R
      have ans : bt_ct (fun p => ¬ th p = 0) 0 4 0 = bt_ct (fun q => ¬ upd th p 0 q = 0) 0 4 0 + 1 :=
        bt_ct_d (p := p) tp (by rw [pk_us]; exact fun z => z rfl) (fun j hj => by rw [pk_un hj]) 4 0 0 (by omega) (by omega)
      refine br_f one ⟨ip.2.2.2.2.1, ?_⟩
      rw [ip.2.2.2.2.2.1, bt_n0]
      refine nm_e (xx_sw (bt_wf_R R') (fun st2 hl2 sw => xx_pc (yy_isP1 hp tp (br_f (by decide) ⟨5, yy_ex_l ?_ 4 0 5 (-1) rfl (by omega) rfl⟩))))
      refine br_t (by decide) (br_f nz ⟨ip.2.2.2.2.1, ?_⟩)
      rw [ip.2.2.2.2.2.1, bt_n0]
      refine nm_e (yy_sw R' (fun st3 sw3 => ?_))
      have := bt_sw_u sw3 sw
      subst this
      refine ⟨?_, bt_mkR (bt_upSw R' sw)⟩
      rw [eY, ans]; grind
  · exact xx_isP0 hn (br_t rfl (yy_isP0 hn (br_t rfl ⟨rfl, bt_mkR R⟩)))
