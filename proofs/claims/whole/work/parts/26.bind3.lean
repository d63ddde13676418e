theorem i_vc_bind {k : Nat} {u : SX} {v : SY} (I : i_Rel k u v) (hk : k + 6 ≤ 3072) (v1 : Int32) (v2 : Int32) (v3 : Int32) (v4 : Int32) (v5 : Int32) : wpX_bind (fun r u' => wpY_bind (fun r' v' => r' = r ∧ i_Rel (k + 6) u' v') v v1 v2 v3 v4 (lw_bz v5)) u v1 v2 v3 v4 (lw_bz v5) := by
  obtain ⟨ls, tl, ec, kc, es, tt, se, fr, st, dr, nm, pa, ve, sz, it, sm, hl, th, sp, tb, dl, dn, cc, cv, mn, mc, oc, on, om, op, tr, el, cm, sY, tY, dy, dm, vc, ms, me, cr, hd, hN, ps, la, ey, tn, tm, sn, sc, fn, fc, s, s', t, t', rfl, rfl, R⟩ := I
  obtain ⟨m, D, rx, dx⟩ := bt_xd v2
  obtain ⟨m', D', rx', dx'⟩ := bt_xd v3
  have hb : bt_B (lw_bz v5) := lw_bz_01 v5
  unfold wpX_bind
  by_cases hp0 : ∃ q, q < 4 ∧ v1 = nI q ∧ th q ≠ 0
  · obtain ⟨p, hp, rfl, tp⟩ := hp0
    have ip := bt_ix4 hp
    have Yr : ((bt_g m D → bt_g m' D' → (v4 < 0 ∨ (¬ v4 < 0 ∧ ¬ v4 ≤ 2)))) → wpY_bind (fun r' v' => r' = -1 ∧ i_Rel (k + 6) (ls, tl, ec, kc, st, dr, nm, pa, ve, sz, it, sm, hl, th, sp, tb, dl, dn, cc, cv, mn, mc, oc, on, om, op, tr, el, cm) v') (ls, es, tt, se, fr, st, nm, pa, ve, sz, sm, it, dr, th, sY, tY, dl, dy, dm, vc, ms, me, cr, hd, hN, ps, la, ey, tn, tm, sn, sc, fn, fc) (nI p) v2 v3 v4 (lw_bz v5) := by
      intro h
      unfold wpY_bind
      by_cases g : bt_g m D
      · refine yy_isPath1 hp tp rx dx g (fun ey2 _ => br_f (by decide) (yy_split rx' dx' (fun g' ey3 _ => br_f (by decide) ?_) (fun _ ey3 => br_t rfl ⟨rfl, bt_mkR R⟩)))
        rcases h g g' with a | ⟨a, b⟩
        · exact br_t a ⟨rfl, bt_mkR R⟩
        · exact br_f a (br_f b ⟨rfl, bt_mkR R⟩)
      · exact yy_isPath0 rx dx (fun z => g z.2) (fun es2 ey2 => br_t rfl ⟨rfl, bt_mkR R⟩)
    refine xx_isP1 hp tp (br_f (by decide) (xx_path rx dx (fun gx => br_f (by decide) (xx_path rx' dx' (fun gx' => br_f (by decide) (xx_ord (fun q0 q2 => br_f (by decide) ?_) (fun q => br_t rfl (Yr (fun _ _ => ?_))))) (fun g => br_t rfl (Yr (fun _ z => absurd z g))))) (fun g => br_t rfl (Yr (fun z _ => absurd z g)))))
    · obtain ⟨ord, o2, rfl⟩ := bt_ord q0 q2
      obtain ⟨r, L', tr', el2, an, hT2, fX, fY⟩ := ev_R (ls := ls) (tl := tl) (ec := ec) (kc := kc) (st := st) (dr := dr) (nm := nm) (pa := pa) (ve := ve) (sz := sz) (it := it) (sm := sm) (hl := hl) (th := th) (sp := sp) (tb := tb) (dl := dl) (dn := dn) (cc := cc) (cv := cv) (mn := mn) (mc := mc) (oc := oc) (on := on) (om := om) (op := op) (tr := tr) (el := el) (cm := cm) R hp tp rx dx gx
      rcases bt_an2 an with ng | ⟨n, hn, rfl, zn, _⟩
      · refine fX _ (br_f ng ?_)
        unfold wpY_bind
        exact yy_isPath1 hp tp rx dx gx (fun ey2 _ => br_f (by decide) (yy_split rx' dx' (fun _ ey3 _ => br_f (by decide) (br_f q0 (br_t q2 (fY _ _ _ _ _ _ _ _ _ _ _ _ (fun es2 se2 ey4 tn2 tm2 sn2 sc2 ht => br_f ng ⟨rfl, bt_mkR R⟩))))) (fun z => absurd gx' z)))
      · have i0 : (0 : Int32) ≤ nI n := nI_pos' (by omega)
        have ix := bt_ix48 hn
        have Nf : bt_N st (nI n) := ⟨n, hn, rfl, zn⟩
        obtain ⟨r', L2, tr2, el3, an', hT2', fX', fY'⟩ := ev_R (ls := ls) (tl := nI L') (ec := nI D) (kc := kc) (st := st) (dr := dr) (nm := nm) (pa := pa) (ve := ve) (sz := sz) (it := it) (sm := sm) (hl := hl) (th := th) (sp := sp) (tb := tb) (dl := dl) (dn := dn) (cc := cc) (cv := cv) (mn := mn) (mc := mc) (oc := oc) (on := on) (om := om) (op := op) (tr := tr') (el := el2) (cm := cm) R hp tp rx' dx' gx'
        -- Y up to the second evaluation
        have toY : ∀ post : Int32 → SY → Prop, (∀ (es2 se2 : Int32) (ey2 tn2 tm2 sn2 sc2 : Nat → Int32),
            ((0 ≤ r' → (vp_in (nI n) 48 ∧ (vp_in r' 48 ∧ ((dr n = dr r'.toNatClampNeg → (vp_in (nI n) 48 ∧ ((dr n = 0 → ((nI ord = 0 → wY_bind_99 post (nI p) (nI ord) (lw_bz v5) (nI n) r' ls es2 (nI L2) se2 fr st nm pa ve sz sm it dr th sY tY dl dy dm vc ms me cr hd hN ps la ey2 tn2 tm2 sn2 sc2 fn fc) ∧ (¬ nI ord = 0 → post (-7) (ls, es2, nI L2, se2, fr, st, nm, pa, ve, sz, sm, it, dr, th, sY, tY, dl, dy, dm, vc, ms, me, cr, hd, hN, ps, la, ey2, tn2, tm2, sn2, sc2, fn, fc)))) ∧
                (¬ dr n = 0 → wY_bind_99 post (nI p) (nI ord) (lw_bz v5) (nI n) r' ls es2 (nI L2) se2 fr st nm pa ve sz sm it dr th sY tY dl dy dm vc ms me cr hd hN ps la ey2 tn2 tm2 sn2 sc2 fn fc)))) ∧ (¬ dr n = dr r'.toNatClampNeg → post (-7) (ls, es2, nI L2, se2, fr, st, nm, pa, ve, sz, sm, it, dr, th, sY, tY, dl, dy, dm, vc, ms, me, cr, hd, hN, ps, la, ey2, tn2, tm2, sn2, sc2, fn, fc)))))) ∧
             (¬ 0 ≤ r' → post r' (ls, es2, nI L2, se2, fr, st, nm, pa, ve, sz, sm, it, dr, th, sY, tY, dl, dy, dm, vc, ms, me, cr, hd, hN, ps, la, ey2, tn2, tm2, sn2, sc2, fn, fc)))) → wpY_bind post (ls, es, tt, se, fr, st, nm, pa, ve, sz, sm, it, dr, th, sY, tY, dl, dy, dm, vc, ms, me, cr, hd, hN, ps, la, ey, tn, tm, sn, sc, fn, fc) (nI p) v2 v3 (nI ord) (lw_bz v5) := by
          intro post h
          unfold wpY_bind
          refine yy_isPath1 hp tp rx dx gx (fun ey2 _ => br_f (by decide) (yy_split rx' dx' (fun _ ey3 _ => br_f (by decide) (br_f q0 (br_t q2 (fY _ _ _ _ _ _ _ _ _ _ _ _ (fun es2 se2 ey4 tn2 tm2 sn2 sc2 ht => br_t i0 (fY' _ _ _ _ _ _ _ _ _ _ _ _ (fun es3 se3 ey5 tn3 tm3 sn3 sc3 ht' => ?_))))))) (fun z => absurd gx' z)))
          have hh := h es3 se3 ey5 tn3 tm3 sn3 sc3
          refine br_c (fun z => ?_) (fun z => hh.2 z)
          rw [ix.2.2.2.2.2.1]
          exact hh.1 z
        refine fX _ (br_t i0 (fX' _ ?_))
        rcases bt_an2 an' with ng | ⟨n', hn', rfl, zn', _⟩
        · exact br_f ng (toY _ (fun es2 se2 ey2 tn2 tm2 sn2 sc2 => br_f ng ⟨rfl, bt_mkR R⟩))
        · have i0' : (0 : Int32) ≤ nI n' := nI_pos' (by omega)
          have ix' := bt_ix48 hn'
          have Nov : bt_N st (nI n') := ⟨n', hn', rfl, zn'⟩
          rw [ix'.2.2.2.2.2.1] at toY
          refine br_t i0' ⟨ix.2.2.2.2.1, ix'.2.2.2.2.1, ?_⟩
          rw [ix.2.2.2.2.2.1, ix'.2.2.2.2.2.1]
          by_cases kd : dr n = dr n'
          · by_cases bad : dr n' = 0 ∧ ¬ nI ord = 0
            · have y0 : dr n = 0 := kd.trans bad.1
              exact br_t kd ⟨ix'.2.2.2.2.1, br_t bad.1 (br_f bad.2 (toY _ (fun es2 se2 ey2 tn2 tm2 sn2 sc2 => br_t i0' ⟨ix.2.2.2.2.1, ix'.2.2.2.2.1, br_t kd ⟨ix.2.2.2.2.1, br_t y0 (br_f bad.2 ⟨rfl, bt_mkR R⟩)⟩⟩)))⟩
            · -- the bind is made
              have J := R
              obtain ⟨RA, B1, B2, RS, RT, RP⟩ := J
              obtain ⟨hT, hC, hD⟩ := RP p hp tp
              obtain ⟨sa, ha, sb, hb4⟩ := RS.1 p hp
              obtain ⟨c, c1, c5, hv, hNs, hv0, hS⟩ := bt_view hC Nf
              have hof : ∀ k', bt_cf cc cv (s p) (nI n) = some k' → k' < 6 := fun k' hk' => (hS k' hk').1
              have Yg : ∀ post : Int32 → SY → Prop, (∀ (es2 se2 : Int32) (ey2 tn2 tm2 sn2 sc2 : Nat → Int32), wY_bind_99 post (nI p) (nI ord) (lw_bz v5) (nI n) (nI n') ls es2 (nI L2) se2 fr st nm pa ve sz sm it dr th sY tY dl dy dm vc ms me cr hd hN ps la ey2 tn2 tm2 sn2 sc2 fn fc) → wpY_bind post (ls, es, tt, se, fr, st, nm, pa, ve, sz, sm, it, dr, th, sY, tY, dl, dy, dm, vc, ms, me, cr, hd, hN, ps, la, ey, tn, tm, sn, sc, fn, fc) (nI p) v2 v3 (nI ord) (lw_bz v5) := by
                intro post h
                refine toY _ (fun es2 se2 ey2 tn2 tm2 sn2 sc2 => br_t i0' ⟨ix.2.2.2.2.1, ix'.2.2.2.2.1, br_t kd ⟨ix.2.2.2.2.1, br_c (fun y => br_t ?_ (h _ _ _ _ _ _ _)) (fun y => h _ _ _ _ _ _ _)⟩⟩)
                exact Classical.byContradiction fun z => bad ⟨kd.symm.trans y, z⟩
              have Xg : ∀ post : Int32 → SX → Prop, wX_bind_102 post (nI p) (nI ord) (lw_bz v5) (nI n) (nI n') ls (nI L2) (nI D') kc st dr nm pa ve sz it sm hl th sp tb dl dn cc cv mn mc oc on om op tr2 el3 cm → (dr n' = 0 → ((nI ord = 0 → wX_bind_102 post (nI p) (nI ord) (lw_bz v5) (nI n) (nI n') ls (nI L2) (nI D') kc st dr nm pa ve sz it sm hl th sp tb dl dn cc cv mn mc oc on om op tr2 el3 cm) ∧ (¬ nI ord = 0 → post (-7) (ls, nI L2, nI D', kc, st, dr, nm, pa, ve, sz, it, sm, hl, th, sp, tb, dl, dn, cc, cv, mn, mc, oc, on, om, op, tr2, el3, cm)))) ∧ (¬ dr n' = 0 → wX_bind_102 post (nI p) (nI ord) (lw_bz v5) (nI n) (nI n') ls (nI L2) (nI D') kc st dr nm pa ve sz it sm hl th sp tb dl dn cc cv mn mc oc on om op tr2 el3 cm) := by
                intro post h
                exact ⟨fun y => br_t (Classical.byContradiction fun z => bad ⟨y, z⟩) h, fun _ => h⟩
              refine br_t kd ⟨ix'.2.2.2.2.1, Xg _ ⟨ip.2.2.2.2.1, ?_⟩⟩
              rw [ip.2.2.2.2.2.1, sa]
              refine xx_coverOf ha (bt_Cc hC) (xx_seenCount ha hof ?_)
              rw [hv]
              refine ⟨c + 1, xb_129 hp ha c5 sa hof (fun cm2 hcm post' hpp => ?_) c 0 (c + 1) cm (by omega) (by omega) (fun m hm => by omega)⟩
              have Yf : ∀ post : Int32 → SY → Prop, (∀ (es2 se2 : Int32) (ey2 tn2 tm2 sn2 sc2 fn2 : Nat → Int32), (∀ m, m < c → fn2 m = bt_vg mn (s p) (nI n) (bt_cf cc cv (s p) (nI n)) m) → ∀ post' : Int32 → SY → Prop, (∀ (r : Int32) (ls es tt se fr : Int32) (st nm pa ve sz sm it dr th sY tY dl dy dm vc ms me cr hd hN ps la ey tn tm sn sc fn fc : Nat → Int32), post r (ls, es, tt, se, fr, st, nm, pa, ve, sz, sm, it, dr, th, sY, tY, dl, dy, dm, vc, ms, me, cr, hd, hN, ps, la, ey, tn, tm, sn, sc, fn, fc) → post' r (ls, es, tt, se, fr, st, nm, pa, ve, sz, sm, it, dr, th, sY, tY, dl, dy, dm, vc, ms, me, cr, hd, hN, ps, la, ey, tn, tm, sn, sc, fn, fc)) → wpY_cover post' (ls, es2, nI L2, se2, nI c, st, nm, pa, ve, sz, sm, it, dr, th, sY, tY, dl, dy, dm, vc, ms, me, cr, hd, hN, ps, la, ey2, tn2, tm2, sn2, sc2, fn2, fc) (nI p) (nI n') (nI ord) (lw_bz v5)) → wpY_bind post (ls, es, tt, se, fr, st, nm, pa, ve, sz, sm, it, dr, th, sY, tY, dl, dy, dm, vc, ms, me, cr, hd, hN, ps, la, ey, tn, tm, sn, sc, fn, fc) (nI p) v2 v3 (nI ord) (lw_bz v5) := by
                intro post h
                refine Yg post (fun es2 se2 ey2 tn2 tm2 sn2 sc2 => ?_)
                unfold wY_bind_99
                exact yy_look hp hb4 sb B2 hC Nf rfl hv c1 c5 (fun sn3 sc3 g1 _ _ => ⟨c + 1, yb_117 c5 (fun fn2 hfn post' hpp => h _ _ _ _ _ _ _ fn2 (fun m hm => by rw [hfn m hm, g1 m hm]) post' hpp) c 0 (c + 1) fn (by omega) (by omega) (fun m hm => by omega)⟩)
              rcases cov_R (ls := ls) (tl := nI L2) (ec := nI D') (st := st) (dr := dr) (nm := nm) (pa := pa) (ve := ve) (sz := sz) (it := it) (sm := sm) (hl := hl) (th := th) (sp := sp) (tb := tb) (dl := dl) (dn := dn) (cc := cc) (cv := cv) (mn := mn) (mc := mc) (oc := oc) (on := on) (om := om) (op := op) (tr := tr2) (el := el3) (cm := cm2) (sY := sY) (tY := tY) (dy := dy) (dm := dm) (vc := vc) (ms := ms) (me := me) (cr := cr) (hd := hd) (hN := hN) (ps := ps) (la := la) (p := p) (ov := n') (N := c) (ord := ord) (b := lw_bz v5) (g := bt_vg mn (s p) (nI n) (bt_cf cc cv (s p) (nI n))) R hp tp Nov o2 c1 c5 hNs hb hcm with ⟨cX, cY⟩ | ⟨r2, Q, cX, cY⟩
              · exact cX _ (hpp _ _ _ _ _ _ _ _ _ _ _ _ _ _ _ _ _ _ _ _ _ _ _ _ _ _ _ _ _ _ (Yf _ (fun es2 se2 ey2 tn2 tm2 sn2 sc2 fn2 hfn post' hpp => cY post' _ _ _ _ _ _ _ _ fn2 _ hfn (fun se3 sn3 sc3 => hpp _ _ _ _ _ _ _ _ _ _ _ _ _ _ _ _ _ _ _ _ _ _ _ _ _ _ _ _ _ _ _ _ _ _ _ ⟨rfl, bt_mkR R⟩))))
              · exact cX _ (fun st2 hl2 cc2 cv2 mn2 mc2 q => hpp _ _ _ _ _ _ _ _ _ _ _ _ _ _ _ _ _ _ _ _ _ _ _ _ _ _ _ _ _ _ (Yf _ (fun es2 se2 ey2 tn2 tm2 sn2 sc2 fn2 hfn post' hpp => cY st2 cc2 cv2 mn2 mc2 q post' _ _ _ _ _ _ _ _ fn2 _ hfn (fun se3 sn3 sc3 vc2 ms2 me2 cr2 R2 => hpp _ _ _ _ _ _ _ _ _ _ _ _ _ _ _ _ _ _ _ _ _ _ _ _ _ _ _ _ _ _ _ _ _ _ _ ⟨rfl, bt_mkR R2⟩))))
          · exact br_f kd (toY _ (fun es2 se2 ey2 tn2 tm2 sn2 sc2 => br_t i0' ⟨ix.2.2.2.2.1, ix'.2.2.2.2.1, br_f kd ⟨rfl, bt_mkR R⟩⟩))
    · by_cases w : v4 < 0
      · exact Or.inl w
      · exact Or.inr ⟨w, fun y => q ⟨w, y⟩⟩
  · refine xx_isP0 hp0 (br_t rfl ?_)
    unfold wpY_bind
    exact yy_isPath0 rx dx (fun z => hp0 z.1) (fun es2 ey2 => br_t rfl ⟨rfl, bt_mkR R⟩)
