section
variable {ls tl ec kc : Int32} {st dr nm pa ve sz it sm hl th sp tb dl dn cc cv mn mc oc on om op tr el cm : Nat → Int32} {es tt se fr : Int32} {sY tY dy dm vc ms me cr hd hN ps la ey tn tm sn sc fn fc : Nat → Int32} {s s' t t' : Nat → Nat}
theorem slot_R (R : bt_R st dr nm pa sz th dl sp tb dn cc cv mn mc oc on om op sY tY dy dm vc ms me cr hd hN ps la s s' t t') (v1 v2 : Int32) :
    ((∀ post : Int32 → Prop, post (-1) → wpX_openSlot post (ls, tl, ec, kc, st, dr, nm, pa, ve, sz, it, sm, hl, th, sp, tb, dl, dn, cc, cv, mn, mc, oc, on, om, op, tr, el, cm) v1 v2) ∧ (∀ post : Int32 → Prop, post (-1) → wpY_cellOf post (ls, es, tt, se, fr, st, nm, pa, ve, sz, sm, it, dr, th, sY, tY, dl, dy, dm, vc, ms, me, cr, hd, hN, ps, la, ey, tn, tm, sn, sc, fn, fc) v1 v2)) ∨
    ∃ p d c, p < 4 ∧ d < 4 ∧ th p ≠ 0 ∧ t p < 4 ∧ t' p < 4 ∧ 1 ≤ c ∧ c ≤ 5 ∧ oc (4 * t p + d) = nI c ∧ hd (4 * t' p + d) = nI c ∧
      (∀ post : Int32 → Prop, post (nI (4 * t p + d)) → wpX_openSlot post (ls, tl, ec, kc, st, dr, nm, pa, ve, sz, it, sm, hl, th, sp, tb, dl, dn, cc, cv, mn, mc, oc, on, om, op, tr, el, cm) v1 v2) ∧ (∀ post : Int32 → Prop, post (nI (4 * t' p + d)) → wpY_cellOf post (ls, es, tt, se, fr, st, nm, pa, ve, sz, sm, it, dr, th, sY, tY, dl, dy, dm, vc, ms, me, cr, hd, hN, ps, la, ey, tn, tm, sn, sc, fn, fc) v1 v2) := by
  unfold wpX_openSlot wpY_cellOf
  by_cases hn : ∃ q, q < 4 ∧ v1 = nI q ∧ th q ≠ 0
  · obtain ⟨p, hp, rfl, tp⟩ := hn
    have ip := bt_ix4 hp
    by_cases a : v2 < 0
    · exact Or.inl ⟨fun post h => xx_isP1 hp tp (br_f (by decide) (br_t a h)), fun post h => yy_isP1 hp tp (br_f (by decide) (br_t a h))⟩
    rcases pk_ix v2 (n := 4) (by decide) with b | b | ⟨d, hd4, rfl⟩
    · exact absurd b a
    · have b1 : ¬ v2 < 4 := Int32.not_lt.mpr b
      have b2 : 3 < v2 := Int32.lt_of_lt_of_le (by decide) b
      exact Or.inl ⟨fun post h => xx_isP1 hp tp (br_f (by decide) (br_f a (br_f b1 h))), fun post h => yy_isP1 hp tp (br_f (by decide) (br_f a (br_t b2 h)))⟩
    · have jd := bt_ix4 hd4
      have b1 : nI d < 4 := jd.2.2.1
      have b2 : ¬ (3 : Int32) < nI d := Int32.not_lt.mpr (nI_le (b := 3) (by omega) (by decide))
      obtain ⟨ta, ha, tb0, hb⟩ := R.2.2.2.2.1.1 p hp
      obtain ⟨c, c5, u1, u2, _⟩ := (R.2.2.2.2.2 p hp tp).2.2 d hd4
      have ix := bt_ix16 (q := 4 * t p + d) (by omega)
      have iy := bt_ix16 (q := 4 * t' p + d) (by omega)
      have ex : tb (nI p).toNatClampNeg * 4 + nI d = nI (4 * t p + d) := by rw [ip.2.2.2.2.2.1, ta, bt_m4, nI_add]
      have ey0 : 4 * tY (nI p).toNatClampNeg + nI d = nI (4 * t' p + d) := by rw [ip.2.2.2.2.2.1, tb0, bt_4m, nI_add]
      by_cases z : c = 0
      · subst z
        refine Or.inl ⟨fun post h => xx_isP1 hp tp (br_f (by decide) (br_f a (br_t b1 ⟨ip.2.2.2.2.1, nm_r ex ⟨ix.2.2.2.2.1, br_t ?_ h⟩⟩))), fun post h => yy_isP1 hp tp (br_f (by decide) (br_f a (br_f b2 ⟨ip.2.2.2.2.1, ?_⟩)))⟩
        · rw [ix.2.2.2.2.2.1, u1]; decide
        · rw [ey0, iy.2.2.2.2.2.1]
          exact ⟨iy.2.2.2.2.1, br_t u2 h⟩
      · refine Or.inr ⟨p, d, c, hp, hd4, tp, ha, hb, by omega, c5, u1, u2, fun post h => xx_isP1 hp tp (br_f (by decide) (br_f a (br_t b1 ⟨ip.2.2.2.2.1, nm_r ex ⟨ix.2.2.2.2.1, br_f ?_ h⟩⟩))), fun post h => yy_isP1 hp tp (br_f (by decide) (br_f a (br_f b2 ⟨ip.2.2.2.2.1, ?_⟩)))⟩
        · rw [ix.2.2.2.2.2.1, u1]; exact nI_nle (by omega) (by omega)
        · rw [ey0, iy.2.2.2.2.2.1]
          exact ⟨iy.2.2.2.2.1, br_f (by rw [u2]; exact nI_ne0 (by omega) (by omega)) ⟨ip.2.2.2.2.1, h⟩⟩
  · exact Or.inl ⟨fun post h => xx_isP0 hn (br_t rfl h), fun post h => yy_isP0 hn (br_t rfl h)⟩
theorem xx_isDir {post : Int32 → Prop} {i n : Nat} (hi : i < 16) (en : on (5 * i) = nI n) (hn : n < 48) (hb : bt_B (dr n)) (h : post (dr n)) : wpX_isOfDirectories post (ls, tl, ec, kc, st, dr, nm, pa, ve, sz, it, sm, hl, th, sp, tb, dl, dn, cc, cv, mn, mc, oc, on, om, op, tr, el, cm) (nI i) := by
  have ix := bt_ix80 (q := 5 * i) (by omega)
  have iy := bt_ix48 hn
  unfold wpX_isOfDirectories
  show vp_in (nI i * 5) 80 ∧ (vp_in (on (nI i * 5).toNatClampNeg) 48 ∧ (narrow .boolean (.int (dr (on (nI i * 5).toNatClampNeg).toNatClampNeg)) = .int (dr (on (nI i * 5).toNatClampNeg).toNatClampNeg) ∧ (post (dr (on (nI i * 5).toNatClampNeg).toNatClampNeg))))
  rw [bt_m5, ix.2.2.2.2.2.1, en, iy.2.2.2.2.2.1]
  exact ⟨ix.2.2.2.2.1, iy.2.2.2.2.1, bt_narB hb, h⟩
end
theorem i_vc_close {k : Nat} {u : SX} {v : SY} (I : i_Rel k u v) (hk : k + 6 ≤ 3072) (v1 : Int32) (v2 : Int32) : wpX_close (fun r u' => wpY_close (fun r' v' => r' = r ∧ i_Rel (k + 6) u' v') v v1 v2) u v1 v2 := by
  obtain ⟨ls, tl, ec, kc, es, tt, se, fr, st, dr, nm, pa, ve, sz, it, sm, hl, th, sp, tb, dl, dn, cc, cv, mn, mc, oc, on, om, op, tr, el, cm, sY, tY, dy, dm, vc, ms, me, cr, hd, hN, ps, la, ey, tn, tm, sn, sc, fn, fc, s, s', t, t', rfl, rfl, R⟩ := I
  unfold wpX_close wpY_close
  rcases slot_R (ls := ls) (tl := tl) (ec := ec) (kc := kc) (st := st) (dr := dr) (nm := nm) (pa := pa) (ve := ve) (sz := sz) (it := it) (sm := sm) (hl := hl) (th := th) (sp := sp) (tb := tb) (dl := dl) (dn := dn) (cc := cc) (cv := cv) (mn := mn) (mc := mc) (oc := oc) (on := on) (om := om) (op := op) (tr := tr) (el := el) (cm := cm) (es := es) (tt := tt) (se := se) (fr := fr) (sY := sY) (tY := tY) (dy := dy) (dm := dm) (vc := vc) (ms := ms) (me := me) (cr := cr) (hd := hd) (hN := hN) (ps := ps) (la := la) (ey := ey) (tn := tn) (tm := tm) (sn := sn) (sc := sc) (fn := fn) (fc := fc) R v1 v2 with ⟨fX, fY⟩ | ⟨p, d, c, hp, hd4, tp, ha, hb, c1, c5, u1, u2, fX, fY⟩
  · exact fX _ (br_t rfl (fY _ (br_f (by decide) ⟨rfl, bt_mkR R⟩)))
  · have ix := bt_ix16 (q := 4 * t p + d) (by omega)
    have iy := bt_ix16 (q := 4 * t' p + d) (by omega)
    have R' : bt_R st dr nm pa sz th dl sp tb dn cc cv mn mc (upd oc (4 * t p + d) 0) on om op sY tY dy dm vc ms me cr (upd hd (4 * t' p + d) 0) hN ps la s s' t t' := by
      refine bt_upD (p := p) (k := d) R hp hd4 tp (fun x hx => ⟨pk_un hx, rfl, rfl⟩) (fun _ _ => rfl) (fun x hx => ⟨pk_un hx, rfl, rfl⟩) (fun _ _ => rfl) ⟨0, by omega, pk_us, pk_us, fun m hm => by omega, fun h => by omega⟩
    refine fX _ (br_f ix.2.2.2.2.2.2 ⟨ix.2.2.2.2.1, ?_⟩)
    rw [ix.2.2.2.2.2.1]
    refine nm_e (xx_sw (bt_wf_R R') (fun st2 hl2 sw => fY _ (br_t iy.2.1 ⟨iy.2.2.2.2.1, ?_⟩)))
    rw [iy.2.2.2.2.2.1]
    refine nm_e (yy_sw R' (fun st3 sw3 => ?_))
    have := bt_sw_u sw3 sw
    subst this
    exact ⟨rfl, bt_mkR (bt_upSw R' sw)⟩
theorem i_vc_seek {k : Nat} {u : SX} {v : SY} (I : i_Rel k u v) (hk : k + 6 ≤ 3072) (v1 : Int32) (v2 : Int32) (v3 : Int32) : wpX_seek (fun r u' => wpY_seek (fun r' v' => r' = r ∧ i_Rel (k + 6) u' v') v v1 v2 v3) u v1 v2 v3 := by
  obtain ⟨ls, tl, ec, kc, es, tt, se, fr, st, dr, nm, pa, ve, sz, it, sm, hl, th, sp, tb, dl, dn, cc, cv, mn, mc, oc, on, om, op, tr, el, cm, sY, tY, dy, dm, vc, ms, me, cr, hd, hN, ps, la, ey, tn, tm, sn, sc, fn, fc, s, s', t, t', rfl, rfl, R⟩ := I
  rcases slot_R (ls := ls) (tl := tl) (ec := ec) (kc := kc) (st := st) (dr := dr) (nm := nm) (pa := pa) (ve := ve) (sz := sz) (it := it) (sm := sm) (hl := hl) (th := th) (sp := sp) (tb := tb) (dl := dl) (dn := dn) (cc := cc) (cv := cv) (mn := mn) (mc := mc) (oc := oc) (on := on) (om := om) (op := op) (tr := tr) (el := el) (cm := cm) (es := es) (tt := tt) (se := se) (fr := fr) (sY := sY) (tY := tY) (dy := dy) (dm := dm) (vc := vc) (ms := ms) (me := me) (cr := cr) (hd := hd) (hN := hN) (ps := ps) (la := la) (ey := ey) (tn := tn) (tm := tm) (sn := sn) (sc := sc) (fn := fn) (fc := fc) R v1 v2 with ⟨fX, fY⟩ | ⟨p, d, c, hp, hd4, tp, ha, hb, c1, c5, u1, u2, fX, fY⟩
  · unfold wpX_seek wpY_seek
    exact fX _ (br_t rfl (fY _ (br_t (by decide) ⟨rfl, bt_mkR R⟩)))
  · have ix := bt_ix16 (q := 4 * t p + d) (by omega)
    have iy := bt_ix16 (q := 4 * t' p + d) (by omega)
    have jx := bt_ix80 (q := 5 * (4 * t p + d)) (by omega)
    have jy := bt_ix80 (q := 5 * (4 * t' p + d)) (by omega)
    obtain ⟨c', c5', w1, w2, w3, w4⟩ := (R.2.2.2.2.2 p hp tp).2.2 d hd4
    have ec0 : c' = c := bt_inj (by omega) (by omega) (w1.symm.trans u1)
    subst ec0
    obtain ⟨n, hn, en, kd⟩ := w4 c1
    have en' : hN (5 * (4 * t' p + d)) = nI n := (w3 0 (by omega)).1.symm.trans en
    have im := bt_ix48 hn
    have mv : ∀ q, (dr n ≠ 0 → q = 0) → (dr n = 0 → ∃ z, q ≤ z ∧ z ≤ 6 ∧ sz n = nI z) → bt_R st dr nm pa sz th dl sp tb dn cc cv mn mc oc on (upd om (4 * t p + d) 0) (upd op (4 * t p + d) (nI q)) sY tY dy dm vc ms me cr hd hN (upd ps (4 * t' p + d) (nI q)) (upd la (4 * t' p + d) 0) s s' t t' := by
      intro q q1 q2
      refine bt_upD (p := p) (k := d) R hp hd4 tp (fun x hx => ⟨rfl, pk_un hx, pk_un hx⟩) (fun _ _ => rfl) (fun x hx => ⟨rfl, pk_un hx, pk_un hx⟩) (fun _ _ => rfl) ⟨c', c5', w1, w2, w3, fun _ => ⟨n, hn, en, ?_⟩⟩
      rcases kd with ⟨y1, _⟩ | ⟨y1, _⟩
      · refine Or.inl ⟨y1, 0, by omega, pk_us, ?_, ?_⟩
        · rw [pk_us, q1 y1]
        · rw [pk_us, pk_us, q1 y1]; rfl
      · obtain ⟨z, z1, z2, z3⟩ := q2 y1
        exact Or.inr ⟨y1, q, z, z1, z2, z3, pk_us, pk_us⟩
    have fin : ∀ (g : Nat), g ≤ 6 → (dr n ≠ 0 → g = 0) → (dr n = 0 → sz n = nI g) →
        (∀ post : Int32 → SX → Prop, (v3 < 0 → post 0 (ls, tl, ec, kc, st, dr, nm, pa, ve, sz, it, sm, hl, th, sp, tb, dl, dn, cc, cv, mn, mc, oc, on, om, op, tr, el, cm)) → (¬ v3 < 0 → ¬ v3 ≤ nI g → post 0 (ls, tl, ec, kc, st, dr, nm, pa, ve, sz, it, sm, hl, th, sp, tb, dl, dn, cc, cv, mn, mc, oc, on, om, op, tr, el, cm)) → (∀ q, q ≤ g → v3 = nI q → post 1 (ls, tl, ec, kc, st, dr, nm, pa, ve, sz, it, sm, hl, th, sp, tb, dl, dn, cc, cv, mn, mc, oc, on, upd om (4 * t p + d) 0, upd op (4 * t p + d) (nI q), tr, el, cm)) → wX_seek_43 post v3 (nI (4 * t p + d)) (nI g) ls tl ec kc st dr nm pa ve sz it sm hl th sp tb dl dn cc cv mn mc oc on om op tr el cm) ∧
        (∀ post : Int32 → SY → Prop, (¬ v3 ≤ nI g → post 0 (ls, es, tt, se, fr, st, nm, pa, ve, sz, sm, it, dr, th, sY, tY, dl, dy, dm, vc, ms, me, cr, hd, hN, ps, la, ey, tn, tm, sn, sc, fn, fc)) → (∀ q, q ≤ g → v3 = nI q → post 1 (ls, es, tt, se, fr, st, nm, pa, ve, sz, sm, it, dr, th, sY, tY, dl, dy, dm, vc, ms, me, cr, hd, hN, upd ps (4 * t' p + d) (nI q), upd la (4 * t' p + d) 0, ey, tn, tm, sn, sc, fn, fc)) → ¬ v3 < 0 → wY_seek_53 post v3 (nI (4 * t' p + d)) (nI g) v3 ls es tt se fr st nm pa ve sz sm it dr th sY tY dl dy dm vc ms me cr hd hN ps la ey tn tm sn sc fn fc) := by
      intro g g6 _ _
      have key : ¬ v3 < 0 → v3 ≤ nI g → ∃ q, q ≤ g ∧ v3 = nI q := by
        intro a b
        obtain ⟨q, hq, e⟩ := nI_of a
        rw [e, nI_leI hq (by omega)] at b
        exact ⟨q, b, e⟩
      refine ⟨fun post p1 p2 p3 => br_c p1 (fun a => br_c (fun b => ⟨ix.2.2.2.2.1, ?_⟩) (fun b => p2 a b)), fun post p2 p3 a => br_c (fun b => ⟨iy.2.2.2.2.1, ?_⟩) (fun b => p2 b)⟩
      · obtain ⟨q, hq, e⟩ := key a b
        rw [ix.2.2.2.2.2.1, e]
        exact nm_e ⟨ix.2.2.2.2.1, nm_e (p3 q hq e)⟩
      · obtain ⟨q, hq, e⟩ := key a b
        rw [iy.2.2.2.2.2.1, e]
        exact nm_e ⟨iy.2.2.2.2.1, nm_e (p3 q hq e)⟩
    -- the greatest
    have hg : ∃ g, g ≤ 6 ∧ (dr n ≠ 0 → g = 0) ∧ (dr n = 0 → sz n = nI g) := by
      by_cases y : dr n = 0
      · obtain ⟨z, z6, ez⟩ := (R.1.2.2 n hn).2.1 y
        exact ⟨z, z6, fun w => absurd y w, fun _ => ez⟩
      · exact ⟨0, by omega, fun _ => rfl, fun w => absurd w y⟩
    obtain ⟨g, g6, g0, gz⟩ := hg
    obtain ⟨FX, FY⟩ := fin g g6 g0 gz
    have toX : ∀ post : Int32 → SX → Prop, wX_seek_43 post v3 (nI (4 * t p + d)) (nI g) ls tl ec kc st dr nm pa ve sz it sm hl th sp tb dl dn cc cv mn mc oc on om op tr el cm → wpX_seek post (ls, tl, ec, kc, st, dr, nm, pa, ve, sz, it, sm, hl, th, sp, tb, dl, dn, cc, cv, mn, mc, oc, on, om, op, tr, el, cm) v1 v2 v3 := by
      intro post h
      unfold wpX_seek
      refine fX _ (br_f ix.2.2.2.2.2.2 (xx_isDir (by omega) en hn (R.1.1 n) (br_c (fun y => ?_) (fun y => ?_))))
      · rw [bt_m5, jx.2.2.2.2.2.1, en, im.2.2.2.2.2.1, gz y]
        exact ⟨jx.2.2.2.2.1, im.2.2.2.2.1, h⟩
      · have := g0 y
        subst this
        exact h
    have toY : ∀ post : Int32 → SY → Prop, (v3 < 0 → post 0 (ls, es, tt, se, fr, st, nm, pa, ve, sz, sm, it, dr, th, sY, tY, dl, dy, dm, vc, ms, me, cr, hd, hN, ps, la, ey, tn, tm, sn, sc, fn, fc)) → (¬ v3 < 0 → wY_seek_53 post v3 (nI (4 * t' p + d)) (nI g) v3 ls es tt se fr st nm pa ve sz sm it dr th sY tY dl dy dm vc ms me cr hd hN ps la ey tn tm sn sc fn fc) → wpY_seek post (ls, es, tt, se, fr, st, nm, pa, ve, sz, sm, it, dr, th, sY, tY, dl, dy, dm, vc, ms, me, cr, hd, hN, ps, la, ey, tn, tm, sn, sc, fn, fc) v1 v2 v3 := by
      intro post h0 h
      unfold wpY_seek
      refine fY _ (br_f iy.1 (br_c h0 (fun a => ?_)))
      rw [bt_5m, jy.2.2.2.2.2.1, en', im.2.2.2.2.2.1]
      refine ⟨jy.2.2.2.2.1, im.2.2.2.2.1, br_c (fun y => ⟨jy.2.2.2.2.1, im.2.2.2.2.1, ?_⟩) (fun y => ?_)⟩
      · rw [gz y]; exact h a
      · have := g0 y
        subst this
        exact h a
    refine toX _ (FX _ (fun a => ?_) (fun a b => ?_) (fun q hq e => ?_))
    · exact toY _ (fun _ => ⟨rfl, bt_mkR R⟩) (fun z => absurd a z)
    · exact toY _ (fun z => absurd z a) (fun _ => FY _ (fun _ => ⟨rfl, bt_mkR R⟩) (fun q hq e => absurd (by rw [e]; exact nI_le hq (by omega)) b) a)
    · have a : ¬ v3 < 0 := by rw [e]; exact nI_pos (by omega)
      refine toY _ (fun z => absurd z a) (fun _ => FY _ (fun z => absurd (by rw [e]; exact nI_le hq (by omega)) z) (fun q2 hq2 e2 => ?_) a)
      have : q2 = q := bt_inj (by omega) (by omega) (e2.symm.trans e)
      subst this
      refine ⟨rfl, bt_mkR (mv q2 (fun y => by have := g0 y; omega) (fun y => ⟨g, hq, g6, gz y⟩))⟩
