theorem bt_lt6 {q : Nat} (h : q < 2 ^ 31) : nI q < 6 ↔ q < 6 := nI_ltI (b := 6) h (by decide)
theorem bt_e6 {m : Nat} (h : m < 2 ^ 31) : nI m = 6 ↔ m = 6 := nI_eq (b := 6) h (by decide)
theorem i_vc_write {k : Nat} {u : SX} {v : SY} (I : i_Rel k u v) (hk : k + 6 ≤ 3072) (v1 : Int32) (v2 : Int32) (v3 : Int32) : wpX_write (fun r u' => wpY_write (fun r' v' => r' = r ∧ i_Rel (k + 6) u' v') v v1 v2 v3) u v1 v2 v3 := by
  obtain ⟨ls, tl, ec, kc, es, tt, se, fr, st, dr, nm, pa, ve, sz, it, sm, hl, th, sp, tb, dl, dn, cc, cv, mn, mc, oc, on, om, op, tr, el, cm, sY, tY, dy, dm, vc, ms, me, cr, hd, hN, ps, la, ey, tn, tm, sn, sc, fn, fc, s, s', t, t', rfl, rfl, R⟩ := I
  unfold wpX_write wpY_write
  rcases slot_R (ls := ls) (tl := tl) (ec := ec) (kc := kc) (st := st) (dr := dr) (nm := nm) (pa := pa) (ve := ve) (sz := sz) (it := it) (sm := sm) (hl := hl) (th := th) (sp := sp) (tb := tb) (dl := dl) (dn := dn) (cc := cc) (cv := cv) (mn := mn) (mc := mc) (oc := oc) (on := on) (om := om) (op := op) (tr := tr) (el := el) (cm := cm) (es := es) (tt := tt) (se := se) (fr := fr) (sY := sY) (tY := tY) (dy := dy) (dm := dm) (vc := vc) (ms := ms) (me := me) (cr := cr) (hd := hd) (hN := hN) (ps := ps) (la := la) (ey := ey) (tn := tn) (tm := tm) (sn := sn) (sc := sc) (fn := fn) (fc := fc) R v1 v2 with ⟨fX, fY⟩ | ⟨p, d, c, hp, hd4, tp, ha, hb, c1, c5, u1, u2, fX, fY⟩
  · exact fX _ (br_t rfl (fY _ (br_t (by decide) ⟨rfl, bt_mkR R⟩)))
  · have ix := bt_ix16 (q := 4 * t p + d) (by omega)
    have iy := bt_ix16 (q := 4 * t' p + d) (by omega)
    have jx := bt_ix80 (q := 5 * (4 * t p + d)) (by omega)
    have jy := bt_ix80 (q := 5 * (4 * t' p + d)) (by omega)
    obtain ⟨c', c5', w1, w2, w3, w4⟩ := (R.2.2.2.2.2 p hp tp).2.2 d hd4
    have ec0 : c' = c := bt_inj (by omega) (by omega) (w1.symm.trans u1)
    subst ec0
    obtain ⟨n, hn, en, kd⟩ := w4 c1
    have en' : hN (5 * (4 * t' p + d)) = nI n := (w3 0 (by omega)).1.symm.trans en
    have im := bt_ix48 hn
    rcases kd with ⟨y1, _⟩ | ⟨y1, q, z, qz, z6, ez, eo, ep⟩
    · refine fX _ (br_f ix.2.2.2.2.2.2 (xx_isDir (by omega) en hn (R.1.1 n) (br_f y1 (fY _ (br_f iy.1 ?_)))))
      rw [bt_5m, jy.2.2.2.2.2.1, en', im.2.2.2.2.2.1]
      exact ⟨jy.2.2.2.2.1, im.2.2.2.2.1, br_f y1 ⟨rfl, bt_mkR R⟩⟩
    · -- Y up to the position
      have toY : ∀ post : Int32 → SY → Prop, ((nI q = 6 → post (-6) (ls, es, tt, se, fr, st, nm, pa, ve, sz, sm, it, dr, th, sY, tY, dl, dy, dm, vc, ms, me, cr, hd, hN, ps, la, ey, tn, tm, sn, sc, fn, fc)) ∧ (¬ nI q = 6 → (vp_in (nI (4 * t' p + d)) 16 ∧ (vp_in (nI (6 * n + q)) 288 ∧ ∀ it2, it2 = upd it (6 * n + q) v3 → (vp_in (nI (4 * t' p + d)) 16 ∧ (vp_in (nI (4 * t' p + d)) 16 ∧ ∀ ps2, ps2 = upd ps (4 * t' p + d) (nI (q + 1)) → (vp_in (nI (4 * t' p + d)) 16 ∧ (vp_in (nI n) 48 ∧ ((ps2 (4 * t' p + d) ≤ nI z → wY_write_119 post (nI (4 * t' p + d)) (nI n) ls es tt se fr st nm pa ve sz sm it2 dr th sY tY dl dy dm vc ms me cr hd hN ps2 la ey tn tm sn sc fn fc) ∧ (¬ ps2 (4 * t' p + d) ≤ nI z → (vp_in (nI (4 * t' p + d)) 16 ∧ (vp_in (nI n) 48 ∧ ∀ sz2, sz2 = upd sz n (ps2 (4 * t' p + d)) → wY_write_119 post (nI (4 * t' p + d)) (nI n) ls es tt se fr st nm pa ve sz2 sm it2 dr th sY tY dl dy dm vc ms me cr hd hN ps2 la ey tn tm sn sc fn fc)))))))))))) →
          wpY_write post (ls, es, tt, se, fr, st, nm, pa, ve, sz, sm, it, dr, th, sY, tY, dl, dy, dm, vc, ms, me, cr, hd, hN, ps, la, ey, tn, tm, sn, sc, fn, fc) v1 v2 v3 := by
        intro post h
        unfold wpY_write
        refine fY _ (br_f iy.1 ?_)
        rw [bt_5m, jy.2.2.2.2.2.1, en', im.2.2.2.2.2.1]
        refine ⟨jy.2.2.2.2.1, im.2.2.2.2.1, br_t y1 ⟨jy.2.2.2.2.1, nm_e ⟨iy.2.2.2.2.1, ?_⟩⟩⟩
        by_cases q6 : q = 6
        · subst q6
          rw [iy.2.2.2.2.2.1, ep]
          exact br_t rfl (h.1 rfl)
        have q6' : q < 6 := by omega
        have e6 : 6 * nI n + nI q = nI (6 * n + q) := by rw [bt_6m, nI_add]
        have i288 := bt_ix288 (q := 6 * n + q) (by omega)
        rw [iy.2.2.2.2.2.1, ep, e6, i288.2.2.2.2.2.1, im.2.2.2.2.2.1, ez, nI_1]
        exact h
      by_cases q6 : q = 6
      · subst q6
        refine fX _ (br_f ix.2.2.2.2.2.2 (xx_isDir (by omega) en hn (R.1.1 n) (br_t y1 ?_)))
        rw [bt_m5, jx.2.2.2.2.2.1, en, ix.2.2.2.2.2.1, eo]
        refine ⟨jx.2.2.2.2.1, nm_e ⟨ix.2.2.2.2.1, nm_e (br_f (by decide) ?_)⟩⟩
        have := toY (fun r' v' => r' = -6 ∧ i_Rel (k + 6) (ls, tl, ec, kc, st, dr, nm, pa, ve, sz, it, sm, hl, th, sp, tb, dl, dn, cc, cv, mn, mc, oc, on, om, op, tr, el, cm) v') (br_t rfl ⟨rfl, bt_mkR R⟩)
        unfold wpY_write at this
        exact this
      · have q6' : q < 6 := by omega
        have i288 := bt_ix288 (q := 6 * n + q) (by omega)
        have e6 : nI n * 6 + nI q = nI (6 * n + q) := by rw [bt_m6, nI_add]
        have W : ∀ (szz : Nat → Int32) (z' : Nat), q + 1 ≤ z' → z' ≤ 6 → z ≤ z' → szz n = nI z' → (∀ k, k ≠ n → szz k = sz k) → bt_R st dr nm pa szz th dl sp tb dn cc cv mn mc oc on om (upd op (4 * t p + d) (nI (q + 1))) sY tY dy dm vc ms me cr hd hN (upd ps (4 * t' p + d) (nI (q + 1))) la s s' t t' := by
          intro szz z' h1 h2 h3 h4 h5
          have R1 : bt_R st dr nm pa szz th dl sp tb dn cc cv mn mc oc on om op sY tY dy dm vc ms me cr hd hN ps la s s' t t' := by
            refine bt_upN R ⟨R.1.1, R.1.2.1, fun k hk => ⟨(R.1.2.2 k hk).1, fun y => ?_, fun y => ?_⟩⟩ (fun k hk hH hz => ⟨hz, rfl, rfl, fun y zz hz6 e => ?_⟩)
            · by_cases e : k = n
              · rw [e]; exact ⟨z', h2, h4⟩
              · rw [h5 k e]; exact (R.1.2.2 k hk).2.1 y
            · by_cases e : k = n
              · rw [e] at y; exact absurd y1 y
              · rw [h5 k e]; exact (R.1.2.2 k hk).2.2 y
            · by_cases e2 : k = n
              · subst e2
                have : zz = z := bt_inj (by omega) (by omega) (e.symm.trans ez)
                exact ⟨z', by omega, h2, h4⟩
              · rw [h5 k e2]; exact ⟨zz, Nat.le_refl _, hz6, e⟩
          exact bt_upD (p := p) (k := d) R1 hp hd4 tp (fun x hx => ⟨rfl, rfl, pk_un hx⟩) (fun _ _ => rfl) (fun x hx => ⟨rfl, pk_un hx, rfl⟩) (fun _ _ => rfl) ⟨c', c5', w1, w2, w3, fun _ => ⟨n, hn, en, Or.inr ⟨y1, q + 1, z', h1, h2, h4, pk_us, pk_us⟩⟩⟩
        refine fX _ (br_f ix.2.2.2.2.2.2 (xx_isDir (by omega) en hn (R.1.1 n) (br_t y1 ?_)))
        rw [bt_m5, jx.2.2.2.2.2.1, en, ix.2.2.2.2.2.1, eo]
        refine ⟨jx.2.2.2.2.1, nm_e ⟨ix.2.2.2.2.1, nm_e (br_t ((bt_lt6 (by omega)).mpr q6') ?_)⟩⟩
        rw [e6, i288.2.2.2.2.2.1, im.2.2.2.2.2.1, ez, nI_1]
        refine ⟨i288.2.2.2.2.1, nm_e ⟨im.2.2.2.2.1, ?_⟩⟩
        by_cases e : q = z
        · subst e
          refine br_t rfl ⟨im.2.2.2.2.1, im.2.2.2.2.1, nm_e ⟨im.2.2.2.2.1, im.2.2.2.2.1, nm_e ⟨ix.2.2.2.2.1, nm_e ?_⟩⟩⟩
          rw [im.2.2.2.2.2.1, ix.2.2.2.2.2.1, nI_1]
          have := toY (fun r' v' => r' = nI (q + 1) ∧ i_Rel (k + 6) (ls, tl, ec, kc, st, dr, nm, pa, upd ve n (ve n + 1), upd sz n (nI (q + 1)), upd it (6 * n + q) v3, sm, hl, th, sp, tb, dl, dn, cc, cv, mn, mc, oc, on, om, upd op (4 * t p + d) (nI (q + 1)), tr, el, cm) v')
            (br_f (fun y => q6 ((bt_e6 (by omega)).mp y)) ⟨iy.2.2.2.2.1, i288.2.2.2.2.1, nm_e ⟨iy.2.2.2.2.1, iy.2.2.2.2.1, nm_e ⟨iy.2.2.2.2.1, im.2.2.2.2.1, br_f (by rw [pk_us]; exact nI_ge (by omega) (by omega)) ⟨iy.2.2.2.2.1, im.2.2.2.2.1, nm_r (by rw [pk_us]) ⟨im.2.2.2.2.1, im.2.2.2.2.1, nm_r (by rw [im.2.2.2.2.2.1]) ⟨iy.2.2.2.2.1, by rw [iy.2.2.2.2.2.1, pk_us], bt_mkR (W _ (q + 1) (Nat.le_refl _) (by omega) (by omega) pk_us (fun k hk => pk_un hk))⟩⟩⟩⟩⟩⟩)
          unfold wpY_write at this
          exact this
        · refine br_f (fun y => e (bt_inj (by omega) (by omega) y)) ⟨im.2.2.2.2.1, im.2.2.2.2.1, nm_e ⟨ix.2.2.2.2.1, nm_e ?_⟩⟩
          rw [im.2.2.2.2.2.1, ix.2.2.2.2.2.1, nI_1]
          have := toY (fun r' v' => r' = nI (q + 1) ∧ i_Rel (k + 6) (ls, tl, ec, kc, st, dr, nm, pa, upd ve n (ve n + 1), sz, upd it (6 * n + q) v3, sm, hl, th, sp, tb, dl, dn, cc, cv, mn, mc, oc, on, om, upd op (4 * t p + d) (nI (q + 1)), tr, el, cm) v')
            (br_f (fun y => q6 ((bt_e6 (by omega)).mp y)) ⟨iy.2.2.2.2.1, i288.2.2.2.2.1, nm_e ⟨iy.2.2.2.2.1, iy.2.2.2.2.1, nm_e ⟨iy.2.2.2.2.1, im.2.2.2.2.1, br_t (by rw [pk_us]; exact nI_le (by omega) (by omega)) ⟨im.2.2.2.2.1, im.2.2.2.2.1, nm_r (by rw [im.2.2.2.2.2.1]) ⟨iy.2.2.2.2.1, by rw [iy.2.2.2.2.2.1, pk_us], bt_mkR (W _ z (by omega) z6 (Nat.le_refl _) ez (fun k hk => rfl))⟩⟩⟩⟩⟩)
          unfold wpY_write at this
          exact this
section
variable {ls tl ec kc : Int32} {st dr nm pa ve sz it sm hl th sp tb dl dn cc cv mn mc oc on om op tr el cm : Nat → Int32} {es tt se fr : Int32} {sY tY dy dm vc ms me cr hd hN ps la ey tn tm sn sc fn fc : Nat → Int32} {s s' t t' : Nat → Nat}
theorem rd_l {i j c : Nat} (hi : i < 16) (hj : j < 16) (c5 : c ≤ 5) (e1 : hd j = nI c) (hn : ∀ m, m < c → on (5 * i + m) = hN (5 * j + m)) :
    ∀ (e q : Nat) (om op ps la : Nat → Int32), q + e + 1 = c → om i = nI q → ps j = nI q → op i = la j →
      ∃ (r : Int64) (om2 op2 ps2 la2 : Nat → Int32), (∃ q2, q2 < c ∧ om2 i = nI q2 ∧ ps2 j = nI q2) ∧ op2 i = la2 j ∧ (∀ x, x ≠ i → om2 x = om x ∧ op2 x = op x) ∧ (∀ x, x ≠ j → ps2 x = ps x ∧ la2 x = la x) ∧
        (∀ (post : Int64 → SX → Prop) (n : Nat), e + 1 < n → post r (ls, tl, ec, kc, st, dr, nm, pa, ve, sz, it, sm, hl, th, sp, tb, dl, dn, cc, cv, mn, mc, oc, on, om2, op2, tr, el, cm) → wX_readDirectories_16 post (nI i) (nI (c - 1)) ls tl ec kc n (nI q) st dr nm pa ve sz it sm hl th sp tb dl dn cc cv mn mc oc on om op tr el cm) ∧
        (∀ (post : Int64 → SY → Prop) (n : Nat), e < n → post r (ls, es, tt, se, fr, st, nm, pa, ve, sz, sm, it, dr, th, sY, tY, dl, dy, dm, vc, ms, me, cr, hd, hN, ps2, la2, ey, tn, tm, sn, sc, fn, fc) → wY_read_86 post (nI j) ls es tt se fr n st nm pa ve sz sm it dr th sY tY dl dy dm vc ms me cr hd hN ps la ey tn tm sn sc fn fc) := by
  have ix := bt_ix16 hi
  have iy := bt_ix16 hj
  -- one look at member q
  have lookX : ∀ (q : Nat) (om op : Nat → Int32), q < c → ∀ (post : Int64 → SX → Prop) (n : Nat) (o : Option Nat), bt_nx (fun n => (st n = 1 ∧ pa n = on (5 * i + q)) ∧ ¬ sm n ≤ op i) sm 3 45 none = o →
      ((bt_o o = -1 → ((nI (c - 1) ≤ nI q → ∀ y, y = nI q + 1 → wX_readDirectories_16 post (nI i) (nI (c - 1)) ls tl ec kc n y st dr nm pa ve sz it sm hl th sp tb dl dn cc cv mn mc oc on om op tr el cm) ∧ (¬ nI (c - 1) ≤ nI q → (vp_in (nI i) 16 ∧ ∀ om2, om2 = upd om i (nI q + 1) → (vp_in (nI i) 16 ∧ ∀ op2, op2 = upd op i 0 → ∀ y, y = nI q + 1 → wX_readDirectories_16 post (nI i) (nI (c - 1)) ls tl ec kc n y st dr nm pa ve sz it sm hl th sp tb dl dn cc cv mn mc oc on om2 op2 tr el cm))))) ∧
       (¬ bt_o o = -1 → (vp_in (bt_o o) 48 ∧ (vp_in (nI i) 16 ∧ ∀ op2, op2 = upd op i (sm (bt_o o).toNatClampNeg) → post (bt_o o).toInt64 (ls, tl, ec, kc, st, dr, nm, pa, ve, sz, it, sm, hl, th, sp, tb, dl, dn, cc, cv, mn, mc, oc, on, om, op2, tr, el, cm))))) →
      wX_readDirectories_16 post (nI i) (nI (c - 1)) ls tl ec kc (n + 1) (nI q) st dr nm pa ve sz it sm hl th sp tb dl dn cc cv mn mc oc on om op tr el cm := by
    intro q om op hq post n o ho h
    have iz := bt_ix80 (q := 5 * i + q) (by omega)
    have e5 : nI i * 5 + nI q = nI (5 * i + q) := by rw [bt_m5, nI_add]
    refine br_f (nI_nlt (by omega) (by omega)) ?_
    rw [e5, iz.2.2.2.2.2.1, ix.2.2.2.2.2.1]
    refine ⟨iz.2.2.2.2.1, ix.2.2.2.2.1, xx_after ?_⟩
    rw [ho]
    exact h
  have lookY : ∀ (q : Nat) (ps la : Nat → Int32), q < c → ps j = nI q → ∀ (post : Int64 → SY → Prop) (n : Nat) (o : Option Nat), bt_nx (fun n => (st n = 1 ∧ pa n = on (5 * i + q)) ∧ ¬ sm n ≤ la j) sm 3 45 none = o →
      ((bt_o o < 0 → (vp_in (nI j) 16 ∧ (vp_in (nI j) 16 ∧ ((nI q = nI c - 1 → post 1099511627776 (ls, es, tt, se, fr, st, nm, pa, ve, sz, sm, it, dr, th, sY, tY, dl, dy, dm, vc, ms, me, cr, hd, hN, ps, la, ey, tn, tm, sn, sc, fn, fc)) ∧ (¬ nI q = nI c - 1 → (vp_in (nI j) 16 ∧ (vp_in (nI j) 16 ∧ ∀ ps2, ps2 = upd ps j (nI (q + 1)) → (vp_in (nI j) 16 ∧ ∀ la2, la2 = upd la j 0 → wY_read_86 post (nI j) ls es tt se fr n st nm pa ve sz sm it dr th sY tY dl dy dm vc ms me cr hd hN ps2 la2 ey tn tm sn sc fn fc)))))))) ∧
       (¬ bt_o o < 0 → (vp_in (bt_o o) 48 ∧ (vp_in (nI j) 16 ∧ ∀ la2, la2 = upd la j (sm (bt_o o).toNatClampNeg) → post (bt_o o).toInt64 (ls, es, tt, se, fr, st, nm, pa, ve, sz, sm, it, dr, th, sY, tY, dl, dy, dm, vc, ms, me, cr, hd, hN, ps, la2, ey, tn, tm, sn, sc, fn, fc))))) →
      wY_read_86 post (nI j) ls es tt se fr (n + 1) st nm pa ve sz sm it dr th sY tY dl dy dm vc ms me cr hd hN ps la ey tn tm sn sc fn fc := by
    intro q ps la hq hps post n o ho h
    have iz := bt_ix80 (q := 5 * j + q) (by omega)
    have e5 : 5 * nI j + nI q = nI (5 * j + q) := by rw [bt_5m, nI_add]
    refine ⟨iy.2.2.2.2.1, ?_⟩
    rw [iy.2.2.2.2.2.1, hps, e5, iz.2.2.2.2.2.1, ← hn q hq, e1, nI_1]
    refine ⟨iz.2.2.2.2.1, iy.2.2.2.2.1, yy_next ?_⟩
    rw [ho]
    exact h
  -- found
  have found : ∀ (q m e : Nat) (om op ps la : Nat → Int32), q < c → om i = nI q → ps j = nI q → op i = la j → bt_nx (fun n => (st n = 1 ∧ pa n = on (5 * i + q)) ∧ ¬ sm n ≤ op i) sm 3 45 none = some m →
      ∃ (r : Int64) (om2 op2 ps2 la2 : Nat → Int32), (∃ q2, q2 < c ∧ om2 i = nI q2 ∧ ps2 j = nI q2) ∧ op2 i = la2 j ∧ (∀ x, x ≠ i → om2 x = om x ∧ op2 x = op x) ∧ (∀ x, x ≠ j → ps2 x = ps x ∧ la2 x = la x) ∧
        (∀ (post : Int64 → SX → Prop) (n : Nat), e + 1 < n → post r (ls, tl, ec, kc, st, dr, nm, pa, ve, sz, it, sm, hl, th, sp, tb, dl, dn, cc, cv, mn, mc, oc, on, om2, op2, tr, el, cm) → wX_readDirectories_16 post (nI i) (nI (c - 1)) ls tl ec kc n (nI q) st dr nm pa ve sz it sm hl th sp tb dl dn cc cv mn mc oc on om op tr el cm) ∧
        (∀ (post : Int64 → SY → Prop) (n : Nat), e < n → post r (ls, es, tt, se, fr, st, nm, pa, ve, sz, sm, it, dr, th, sY, tY, dl, dy, dm, vc, ms, me, cr, hd, hN, ps2, la2, ey, tn, tm, sn, sc, fn, fc) → wY_read_86 post (nI j) ls es tt se fr n st nm pa ve sz sm it dr th sY tY dl dy dm vc ms me cr hd hN ps la ey tn tm sn sc fn fc) := by
    intro q m e om op ps la hq h1 h2 h3 ho
    have hm : m < 48 := bt_nx_in (fun m => m < 48) 45 3 none (fun j a b _ => by omega) (fun n h => by cases h) m ho
    have im := bt_ix48 hm
    refine ⟨(nI m).toInt64, om, upd op i (sm m), ps, upd la j (sm m), ⟨q, hq, h1, h2⟩, by rw [pk_us, pk_us], fun x hx => ⟨rfl, pk_un hx⟩, fun x hx => ⟨rfl, pk_un hx⟩, fun post n hn' h => ?_, fun post n hn' h => ?_⟩
    · obtain ⟨n, rfl⟩ : ∃ n', n = n' + 1 := ⟨n - 1, by omega⟩
      refine lookX q om op hq post n (some m) ho (br_f im.2.2.2.2.2.2 ⟨im.2.2.2.2.1, ix.2.2.2.2.1, nm_r (show _ = upd op i (sm m) from ?_) h⟩)
      exact congrArg (fun z => upd op i (sm z)) im.2.2.2.2.2.1
    · obtain ⟨n, rfl⟩ : ∃ n', n = n' + 1 := ⟨n - 1, by omega⟩
      refine lookY q ps la hq h2 post n (some m) (by rw [← h3]; exact ho) (br_f im.1 ⟨im.2.2.2.2.1, iy.2.2.2.2.1, nm_r (show _ = upd la j (sm m) from ?_) h⟩)
      exact congrArg (fun z => upd la j (sm z)) im.2.2.2.2.2.1
  intro e
  induction e with
  | zero =>
    intro q om op ps la hq h1 h2 h3
    cases ho : bt_nx (fun n => (st n = 1 ∧ pa n = on (5 * i + q)) ∧ ¬ sm n ≤ op i) sm 3 45 none with
    | some m => exact found q m 0 om op ps la (by omega) h1 h2 h3 ho
    | none =>
      have ec0 : c - 1 = q := by omega
      refine ⟨1099511627776, om, op, ps, la, ⟨q, by omega, h1, h2⟩, h3, fun x hx => ⟨rfl, rfl⟩, fun x hx => ⟨rfl, rfl⟩, fun post n hn' h => ?_, fun post n hn' h => ?_⟩
      · obtain ⟨n, rfl⟩ : ∃ n', n = n' + 1 + 1 := ⟨n - 2, by omega⟩
        refine lookX q om op (by omega) post (n + 1) none ho (br_t rfl (br_t (nI_le (by omega) (by omega)) (nm_r (nI_1 _) (br_t (nI_lt (by omega) (by omega)) h))))
      · obtain ⟨n, rfl⟩ : ∃ n', n = n' + 1 := ⟨n - 1, by omega⟩
        refine lookY q ps la (by omega) h2 post n none (by rw [← h3]; exact ho) (br_t (show (-1 : Int32) < 0 by decide) ⟨iy.2.2.2.2.1, iy.2.2.2.2.1, br_t ?_ h⟩)
        rw [bt_s1 (by omega), ec0]
  | succ e ih =>
    intro q om op ps la hq h1 h2 h3
    cases ho : bt_nx (fun n => (st n = 1 ∧ pa n = on (5 * i + q)) ∧ ¬ sm n ≤ op i) sm 3 45 none with
    | some m => exact found q m (e + 1) om op ps la (by omega) h1 h2 h3 ho
    | none =>
      obtain ⟨r, om2, op2, ps2, la2, a1, a2, a3, a4, fX, fY⟩ := ih (q + 1) (upd om i (nI (q + 1))) (upd op i 0) (upd ps j (nI (q + 1))) (upd la j 0) (by omega) pk_us pk_us (by rw [pk_us, pk_us])
      refine ⟨r, om2, op2, ps2, la2, a1, a2, fun x hx => ?_, fun x hx => ?_, fun post n hn' h => ?_, fun post n hn' h => ?_⟩
      · rw [(a3 x hx).1, (a3 x hx).2, pk_un hx, pk_un hx]; exact ⟨rfl, rfl⟩
      · rw [(a4 x hx).1, (a4 x hx).2, pk_un hx, pk_un hx]; exact ⟨rfl, rfl⟩
      · obtain ⟨n, rfl⟩ : ∃ n', n = n' + 1 := ⟨n - 1, by omega⟩
        exact lookX q om op (by omega) post n none ho (br_t rfl (br_f (nI_ge (by omega) (by omega)) ⟨ix.2.2.2.2.1, nm_r (by rw [nI_1]) ⟨ix.2.2.2.2.1, nm_e (nm_r (nI_1 _) (fX post n (by omega) h))⟩⟩))
      · obtain ⟨n, rfl⟩ : ∃ n', n = n' + 1 := ⟨n - 1, by omega⟩
        refine lookY q ps la (by omega) h2 post n none (by rw [← h3]; exact ho) (br_t (show (-1 : Int32) < 0 by decide) ⟨iy.2.2.2.2.1, iy.2.2.2.2.1, br_f ?_ ⟨iy.2.2.2.2.1, iy.2.2.2.2.1, nm_e ⟨iy.2.2.2.2.1, nm_e (fY post n (by omega) h)⟩⟩⟩)
        rw [bt_s1 (by omega)]
        exact fun y => by have := bt_inj (by omega) (by omega) y; omega
end
