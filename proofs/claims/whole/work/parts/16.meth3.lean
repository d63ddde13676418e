section
variable {ls tl ec kc : Int32} {st dr nm pa ve sz it sm hl th sp tb dl dn cc cv mn mc oc on om op tr el cm : Nat → Int32} {es tt se fr : Int32} {sY tY dy dm vc ms me cr hd hN ps la ey tn tm sn sc fn fc : Nat → Int32} {s s' t t' : Nat → Nat} {dl2 dn2 : Nat → Int32}
theorem bt_wf_T {p L : Nat} (hw : bt_wf th dl sp tb dn cc cv mn oc on s t) (h1 : ∀ q, q ≠ p → dl2 q = dl q) (h2 : ∀ x, (x < 7 * p ∨ 7 * p + 7 ≤ x) → dn2 x = dn x)
    (L7 : L ≤ 7) (eL : dl2 p = nI L) (hn : ∀ i, i < L → ∃ n, n < 48 ∧ dn2 (7 * p + i) = nI n) : bt_wf th dl2 sp tb dn2 cc cv mn oc on s t := by
  intro q hq tq
  obtain ⟨a, b, c, d, ⟨L2, l7, el2, f⟩, g⟩ := hw q hq tq
  refine ⟨a, b, c, d, ?_, g⟩
  by_cases e : q = p
  · subst e; exact ⟨L, L7, eL, hn⟩
  · refine ⟨L2, l7, (h1 q e).trans el2, fun i hi => ?_⟩
    rw [h2 (7 * q + i) (by rcases Nat.lt_or_gt_of_ne e with z | z <;> omega)]
    exact f i hi
theorem xx_cd_l {post : Int32 → SX → Prop} {p L : Nat} {x3 : Int32} (hp : p < 4) (L7 : L ≤ 7) (hw : bt_wf th dl sp tb dn cc cv mn oc on s t) (htr : ∀ i, i < L → ∃ n, n < 48 ∧ tr i = nI n)
    (h : ∀ dn2 st2 hl2 : Nat → Int32, (∀ j, j < L → dn2 (7 * p + j) = tr j) → (∀ x, (x < 7 * p ∨ 7 * p + 7 ≤ x) → dn2 x = dn x) → bt_sw st (bt_H th (upd dl p (nI L)) dn2 cc cv mn oc on s t) st2 → post x3 (ls, nI L, ec, kc, st2, dr, nm, pa, ve, sz, it, sm, hl2, th, sp, tb, upd dl p (nI L), dn2, cc, cv, mn, mc, oc, on, om, op, tr, el, cm)) :
    ∀ (e i n : Nat) (dn2 : Nat → Int32), i + e = L → e < n → (∀ j, j < i → dn2 (7 * p + j) = tr j) → (∀ x, (x < 7 * p ∨ 7 * p + 7 ≤ x) → dn2 x = dn x) → wX_chdir_28 post (nI p) x3 ls (nI L) ec kc n (nI i) st dr nm pa ve sz it sm hl th sp tb dl dn2 cc cv mn mc oc on om op tr el cm := by
  have ip := bt_ix4 hp
  intro e
  induction e with
  | zero =>
    intro i n dn2 hi hn h1 h2
    obtain ⟨n, rfl⟩ : ∃ n', n = n' + 1 := ⟨n - 1, by omega⟩
    have : i = L := by omega
    subst this
    refine br_t (Int32.le_refl _) ⟨ip.2.2.2.2.1, ?_⟩
    rw [ip.2.2.2.2.2.1]
    refine nm_e (xx_sw (bt_wf_T hw (fun q hq => pk_un hq) h2 L7 pk_us (fun j hj => ?_)) (fun st2 hl2 sw => h dn2 st2 hl2 h1 h2 sw))
    rw [h1 j hj]; exact htr j hj
  | succ e ih =>
    intro i n dn2 hi hn h1 h2
    obtain ⟨n, rfl⟩ : ∃ n', n = n' + 1 := ⟨n - 1, by omega⟩
    have ix := bt_ix7 (q := i) (by omega)
    have iy := bt_ix28 (q := 7 * p + i) (by omega)
    have e7 : nI p * 7 + nI i = nI (7 * p + i) := by rw [bt_m7, nI_add]
    refine br_f (nI_ge (by omega) (by omega)) ?_
    rw [e7, iy.2.2.2.2.2.1, ix.2.2.2.2.2.1]
    refine ⟨ix.2.2.2.2.1, iy.2.2.2.2.1, nm_e (nm_r (nI_1 _) (ih (i + 1) n _ (by omega) (by omega) (fun j hj => ?_) (fun x hx => ?_)))⟩
    · by_cases w : j = i
      · rw [w, pk_us]
      · rw [pk_un (by omega)]; exact h1 j (by omega)
    · rw [pk_un (by omega)]; exact h2 x hx
theorem yy_cd_l {post : Int32 → SY → Prop} {p : Nat} {x3 : Int32} (hp : p < 4)
    (hR : ∀ dy2 dm2 : Nat → Int32, (∀ j, j < 7 → dy2 (7 * p + j) = tn j ∧ dm2 (7 * p + j) = tm j) → (∀ x, (x < 7 * p ∨ 7 * p + 7 ≤ x) → dy2 x = dy x ∧ dm2 x = dm x) → bt_R st dr nm pa sz th dl sp tb dn cc cv mn mc oc on om op sY tY dy2 dm2 vc ms me cr hd hN ps la s s' t t')
    (h : ∀ dy2 dm2 st2 : Nat → Int32, bt_R st dr nm pa sz th dl sp tb dn cc cv mn mc oc on om op sY tY dy2 dm2 vc ms me cr hd hN ps la s s' t t' → bt_sw st (bt_H th dl dn cc cv mn oc on s t) st2 → post x3 (ls, es, tt, se, fr, st2, nm, pa, ve, sz, sm, it, dr, th, sY, tY, dl, dy2, dm2, vc, ms, me, cr, hd, hN, ps, la, ey, tn, tm, sn, sc, fn, fc)) :
    ∀ (e i n : Nat) (dy2 dm2 : Nat → Int32), i + e = 7 → e < n → (∀ j, j < i → dy2 (7 * p + j) = tn j ∧ dm2 (7 * p + j) = tm j) → (∀ x, (x < 7 * p ∨ 7 * p + 7 ≤ x) → dy2 x = dy x ∧ dm2 x = dm x) → wY_chdir_50 post (nI p) x3 ls es tt se fr n (nI i) st nm pa ve sz sm it dr th sY tY dl dy2 dm2 vc ms me cr hd hN ps la ey tn tm sn sc fn fc := by
  intro e
  induction e with
  | zero =>
    intro i n dy2 dm2 hi hn h1 h2
    obtain ⟨n, rfl⟩ : ∃ n', n = n' + 1 := ⟨n - 1, by omega⟩
    have : i = 7 := by omega
    subst this
    exact br_t (by decide) (yy_sw (hR dy2 dm2 h1 h2) (fun st2 sw => h dy2 dm2 st2 (hR dy2 dm2 h1 h2) sw))
  | succ e ih =>
    intro i n dy2 dm2 hi hn h1 h2
    obtain ⟨n, rfl⟩ : ∃ n', n = n' + 1 := ⟨n - 1, by omega⟩
    have ix := bt_ix7 (q := i) (by omega)
    have iy := bt_ix28 (q := 7 * p + i) (by omega)
    have e7 : 7 * nI p + nI i = nI (7 * p + i) := by rw [bt_7m, nI_add]
    refine br_f ix.2.2.2.1 ?_
    rw [e7, iy.2.2.2.2.2.1, ix.2.2.2.2.2.1]
    refine ⟨ix.2.2.2.2.1, iy.2.2.2.2.1, nm_e ⟨ix.2.2.2.2.1, iy.2.2.2.2.1, nm_e (nm_r (nI_1 _) (ih (i + 1) n _ _ (by omega) (by omega) (fun j hj => ?_) (fun x hx => ?_)))⟩⟩
    · by_cases w : j = i
      · rw [w, pk_us, pk_us]; exact ⟨rfl, rfl⟩
      · rw [pk_un (by omega), pk_un (by omega)]; exact h1 j (by omega)
    · rw [pk_un (by omega), pk_un (by omega)]; exact h2 x hx
end
theorem i_vc_chdir {k : Nat} {u : SX} {v : SY} (I : i_Rel k u v) (hk : k + 6 ≤ 3072) (v1 : Int32) (v2 : Int32) : wpX_chdir (fun r u' => wpY_chdir (fun r' v' => r' = r ∧ i_Rel (k + 6) u' v') v v1 v2) u v1 v2 := by
  obtain ⟨ls, tl, ec, kc, es, tt, se, fr, st, dr, nm, pa, ve, sz, it, sm, hl, th, sp, tb, dl, dn, cc, cv, mn, mc, oc, on, om, op, tr, el, cm, sY, tY, dy, dm, vc, ms, me, cr, hd, hN, ps, la, ey, tn, tm, sn, sc, fn, fc, s, s', t, t', rfl, rfl, R⟩ := I
  obtain ⟨m, D, rx, dx⟩ := bt_xd v2
  unfold wpX_chdir wpY_chdir
  by_cases hn : (∃ q, q < 4 ∧ v1 = nI q ∧ th q ≠ 0) ∧ bt_g m D
  · obtain ⟨⟨p, hp, rfl, tp⟩, gx⟩ := hn
    obtain ⟨r, L', tr', el2, an, hT2, fX, fY⟩ := ev_R (ls := ls) (tl := tl) (ec := ec) (kc := kc) (st := st) (dr := dr) (nm := nm) (pa := pa) (ve := ve) (sz := sz) (it := it) (sm := sm) (hl := hl) (th := th) (sp := sp) (tb := tb) (dl := dl) (dn := dn) (cc := cc) (cv := cv) (mn := mn) (mc := mc) (oc := oc) (on := on) (om := om) (op := op) (tr := tr) (el := el) (cm := cm) R hp tp rx dx gx
    have ip := bt_ix4 hp
    rcases bt_an2 an with ng | ⟨n, hn, rfl, zn, _⟩
    · exact fX _ (br_f ng (yy_isPath1 hp tp rx dx gx (fun ey2 _ => br_f (by decide) (fY _ _ _ _ _ _ _ _ _ _ _ _ (fun es2 se2 ey3 tn2 tm2 sn2 sc2 ht => br_f ng ⟨rfl, bt_mkR R⟩)))))
    · have i0 : (0 : Int32) ≤ nI n := nI_pos' (by omega)
      have ix := bt_ix48 hn
      by_cases d0 : dr n = 0
      · refine fX _ (br_t i0 ⟨ix.2.2.2.2.1, ?_⟩)
        rw [ix.2.2.2.2.2.1]
        refine br_t d0 (yy_isPath1 hp tp rx dx gx (fun ey2 _ => br_f (by decide) (fY _ _ _ _ _ _ _ _ _ _ _ _ (fun es2 se2 ey3 tn2 tm2 sn2 sc2 ht => br_t i0 ⟨ix.2.2.2.2.1, br_t ?_ ⟨rfl, bt_mkR R⟩⟩))))
        first | exact d0 | (rw [ix.2.2.2.2.2.1]; exact d0)
      · obtain ⟨tn0, tm0, l1, l7, t0, ft⟩ := hT2
        refine fX _ (br_t i0 ⟨ix.2.2.2.2.1, br_f (by rw [ix.2.2.2.2.2.1]; exact d0) ⟨L' + 1, ?_⟩⟩)
        refine xx_cd_l hp l7 (bt_wf_R R) (fun i hi => ?_) (fun dn2 st2 hl2 a1 a2 sw => ?_) L' 0 (L' + 1) dn (by omega) (by omega) (fun j hj => by omega) (fun _ _ => rfl)
        · obtain ⟨_, n', h1, h2, _⟩ := ft i hi
          exact ⟨n', h1, h2⟩
        · refine yy_isPath1 hp tp rx dx gx (fun ey2 _ => br_f (by decide) (fY _ _ _ _ _ _ _ _ _ _ _ _ (fun es2 se2 ey3 tn2 tm2 sn2 sc2 ht => br_t i0 ⟨ix.2.2.2.2.1, br_f (by rw [ix.2.2.2.2.2.1]; exact d0) ⟨ip.2.2.2.2.1, ?_⟩⟩)))
          rw [ip.2.2.2.2.2.1]
          refine nm_e ⟨8, yy_cd_l (sp := sp) (tb := tb) (dn := dn2) (cc := cc) (cv := cv) (mn := mn) (mc := mc) (oc := oc) (on := on) (om := om) (op := op) (s := s) (s' := s') (t := t) (t' := t') hp (fun dy2 dm2 b1 b2 => ?_) (fun dy2 dm2 st3 R3 sw3 => ?_) 7 0 8 dy dm rfl (by omega) (fun j hj => by omega) (fun _ _ => ⟨rfl, rfl⟩)⟩
          · refine bt_upT (p := p) (dl2 := upd dl p (nI L')) (dn2 := dn2) R (fun q hq => pk_un hq) (fun x hx => ⟨a2 x hx, b2 x hx⟩) ⟨L', l1, l7, pk_us, ?_, fun i hi => ?_⟩
            · exact (a1 0 (by omega)).trans t0
            · obtain ⟨u1, n', u2, u3, u4, u5⟩ := ht.2.2.2 i hi
              refine ⟨?_, n', u2, (a1 i hi).trans u3, u4, fun h1 => ?_⟩
              · rw [a1 i hi, (b1 i (by omega)).1]; exact u1
              · rw [(b1 i (by omega)).2]; exact u5 h1
          · have := bt_sw_u sw3 sw
            subst this
            exact ⟨rfl, bt_mkR (bt_upSw R3 sw)⟩
  · exact xx_ev0 rx dx hn (br_f (by decide) (yy_isPath0 rx dx hn (fun es2 ey2 => br_t rfl ⟨rfl, bt_mkR R⟩)))
theorem i_vc_remove {k : Nat} {u : SX} {v : SY} (I : i_Rel k u v) (hk : k + 6 ≤ 3072) (v1 : Int32) (v2 : Int32) : wpX_remove (fun r u' => wpY_remove (fun r' v' => r' = r ∧ i_Rel (k + 6) u' v') v v1 v2) u v1 v2 := by
  obtain ⟨ls, tl, ec, kc, es, tt, se, fr, st, dr, nm, pa, ve, sz, it, sm, hl, th, sp, tb, dl, dn, cc, cv, mn, mc, oc, on, om, op, tr, el, cm, sY, tY, dy, dm, vc, ms, me, cr, hd, hN, ps, la, ey, tn, tm, sn, sc, fn, fc, s, s', t, t', rfl, rfl, R⟩ := I
  obtain ⟨m, D, rx, dx⟩ := bt_xd v2
  unfold wpX_remove wpY_remove
  by_cases hn : (∃ q, q < 4 ∧ v1 = nI q ∧ th q ≠ 0) ∧ bt_g m D
  · obtain ⟨⟨p, hp, rfl, tp⟩, gx⟩ := hn
    obtain ⟨r, L', tr', el2, an, hT2, fX, fY⟩ := ev_R (ls := ls) (tl := tl) (ec := ec) (kc := kc) (st := st) (dr := dr) (nm := nm) (pa := pa) (ve := ve) (sz := sz) (it := it) (sm := sm) (hl := hl) (th := th) (sp := sp) (tb := tb) (dl := dl) (dn := dn) (cc := cc) (cv := cv) (mn := mn) (mc := mc) (oc := oc) (on := on) (om := om) (op := op) (tr := tr) (el := el) (cm := cm) R hp tp rx dx gx
    rcases bt_an2 an with ng | ⟨n, hn, rfl, zn, _⟩
    · exact fX _ (br_f ng (yy_isPath1 hp tp rx dx gx (fun ey2 _ => br_f (by decide) (fY _ _ _ _ _ _ _ _ _ _ _ _ (fun es2 se2 ey3 tn2 tm2 sn2 sc2 ht => br_f ng ⟨rfl, bt_mkR R⟩)))))
    · have i0 : (0 : Int32) ≤ nI n := nI_pos' (by omega)
      have ix := bt_ix48 hn
      by_cases n3 : n < 3
      · have g3 : ¬ (3 : Int32) ≤ nI n := nI_ge (b := 3) n3 (by decide)
        exact fX _ (br_t i0 (br_f g3 (yy_isPath1 hp tp rx dx gx (fun ey2 _ => br_f (by decide) (fY _ _ _ _ _ _ _ _ _ _ _ _ (fun es2 se2 ey3 tn2 tm2 sn2 sc2 ht => br_t i0 (br_f g3 ⟨rfl, bt_mkR R⟩)))))))
      · have g3 : (3 : Int32) ≤ nI n := nI_le (a := 3) (by omega) (by omega)
        by_cases c0 : bt_ct (fun k => st k = 1 ∧ pa k = nI n) 3 45 0 ≤ 0
        · obtain ⟨q, hq, eq⟩ := (R.1.2.2 n hn).1 (by omega) zn
          have iq := bt_ix48 hq
          have R' : bt_R (upd st n 2) dr nm pa sz th dl sp tb dn cc cv mn mc oc on om op sY tY dy dm vc ms me cr hd hN ps la s s' t t' := by
            refine bt_upN R ⟨R.1.1, fun k hk => ?_, fun k hk => ⟨fun h3 h0 => ?_, (R.1.2.2 k hk).2⟩⟩ (fun k hk hH hz => ⟨?_, rfl, rfl, fun _ z hz6 e => ⟨z, Nat.le_refl _, hz6, e⟩⟩)
            · rw [pk_un (by omega)]; exact R.1.2.1 k hk
            · refine (R.1.2.2 k hk).1 h3 ?_
              by_cases e : k = n
              · rw [e]; exact zn
              · rw [pk_un e] at h0; exact h0
            · by_cases e : k = n
              · rw [e, pk_us]; decide
              · rw [pk_un e]; exact hz
          refine fX _ (br_t i0 (br_t g3 (xx_childCount (br_t c0 ⟨ix.2.2.2.2.1, ?_⟩))))
          rw [ix.2.2.2.2.2.1, eq, iq.2.2.2.2.2.1]
          refine nm_e ⟨ix.2.2.2.2.1, iq.2.2.2.2.1, iq.2.2.2.2.1, nm_e (xx_sw (bt_wf_R R') (fun st2 hl2 sw => ?_))⟩
          refine yy_isPath1 hp tp rx dx gx (fun ey2 _ => br_f (by decide) (fY _ _ _ _ _ _ _ _ _ _ _ _ (fun es2 se2 ey3 tn2 tm2 sn2 sc2 ht => br_t i0 (br_t g3 (yy_children (br_t c0 ⟨ix.2.2.2.2.1, ?_⟩))))))
          rw [ix.2.2.2.2.2.1, eq, iq.2.2.2.2.2.1]
          refine nm_e ⟨ix.2.2.2.2.1, iq.2.2.2.2.1, iq.2.2.2.2.1, nm_e (yy_sw R' (fun st3 sw3 => ?_))⟩
          have := bt_sw_u sw3 sw
          subst this
          exact ⟨rfl, bt_mkR (bt_upSw R' sw)⟩
        · exact fX _ (br_t i0 (br_t g3 (xx_childCount (br_f c0 (yy_isPath1 hp tp rx dx gx (fun ey2 _ => br_f (by decide) (fY _ _ _ _ _ _ _ _ _ _ _ _ (fun es2 se2 ey3 tn2 tm2 sn2 sc2 ht => br_t i0 (br_t g3 (yy_children (br_f c0 ⟨rfl, bt_mkR R⟩)))))))))))
  · exact xx_ev0 rx dx hn (br_f (by decide) (yy_isPath0 rx dx hn (fun es2 ey2 => br_t rfl ⟨rfl, bt_mkR R⟩)))
