theorem bt_ord {x : Int32} (a : ¬ x < 0) (b : x ≤ 2) : ∃ o, o ≤ 2 ∧ x = nI o := nI_of2 (M := 2) (n := 2) (by decide) a b
section
variable {ls tl ec kc : Int32} {st dr nm pa ve sz it sm hl th sp tb dl dn cc cv mn mc oc on om op tr el cm : Nat → Int32} {es tt se fr : Int32} {sY tY dy dm vc ms me cr hd hN ps la ey tn tm sn sc fn fc : Nat → Int32} {s s' t t' : Nat → Nat}
theorem xx_ord {post : Int32 → Prop} {x : Int32} (h1 : ¬ x < 0 → x ≤ 2 → post 1) (h0 : ¬ (¬ x < 0 ∧ x ≤ 2) → post 0) : wpX_isOrder post x := by
  refine br_c (fun a => h0 (fun z => z.1 a)) (fun a => br_c (fun b => h0 (fun z => Int32.not_lt.mpr z.2 b)) (fun b => h1 a (Int32.not_lt.mp b)))
theorem xb_129 {post : Int32 → SX → Prop} {p a N : Nat} {x x4 x5 x7 : Int32} {o : Option Nat} (hp : p < 4) (ha : a < 4) (N5 : N ≤ 5) (sa : sp p = nI a) (hof : ∀ k, o = some k → k < 6)
    (h : ∀ cm2 : Nat → Int32, (∀ m, m < N → cm2 m = bt_vg mn a x o m) → ∀ post' : Int32 → SX → Prop, (∀ (r : Int32) (ls tl ec kc : Int32) (st dr nm pa ve sz it sm hl th sp tb dl dn cc cv mn mc oc on om op tr el cm : Nat → Int32), post r (ls, tl, ec, kc, st, dr, nm, pa, ve, sz, it, sm, hl, th, sp, tb, dl, dn, cc, cv, mn, mc, oc, on, om, op, tr, el, cm) → post' r (ls, tl, ec, kc, st, dr, nm, pa, ve, sz, it, sm, hl, th, sp, tb, dl, dn, cc, cv, mn, mc, oc, on, om, op, tr, el, cm)) → wpX_coverWithComing post' (ls, tl, ec, nI N, st, dr, nm, pa, ve, sz, it, sm, hl, th, sp, tb, dl, dn, cc, cv, mn, mc, oc, on, om, op, tr, el, cm2) (nI a) x7 x4 x5) :
    ∀ (e q n : Nat) (cm2 : Nat → Int32), q + e = N → e < n → (∀ m, m < q → cm2 m = bt_vg mn a x o m) → wX_bind_129 post (nI p) x4 x5 x x7 (bt_of (6 * a) o) ls tl ec (nI N) n (nI q) st dr nm pa ve sz it sm hl th sp tb dl dn cc cv mn mc oc on om op tr el cm2 := by
  have ip := bt_ix4 hp
  intro e
  induction e with
  | zero =>
    intro q n cm2 hq hn h1
    obtain ⟨n, rfl⟩ : ∃ n', n = n' + 1 := ⟨n - 1, by omega⟩
    have : q = N := by omega
    subst this
    refine br_t (Int32.le_refl _) ⟨ip.2.2.2.2.1, ?_⟩
    rw [ip.2.2.2.2.2.1, sa]
    exact h cm2 h1 _ (fun r ls tl ec kc st dr nm pa ve sz it sm hl th sp tb dl dn cc cv mn mc oc on om op tr el cm z => z)
  | succ e ih =>
    intro q n cm2 hq hn h1
    obtain ⟨n, rfl⟩ : ∃ n', n = n' + 1 := ⟨n - 1, by omega⟩
    have iq := bt_ix5 (q := q) (by omega)
    refine br_f (nI_ge (by omega) (by omega)) (xx_seenNode ha (by omega) hof ⟨iq.2.2.2.2.1, ?_⟩)
    rw [iq.2.2.2.2.2.1]
    refine nm_e (nm_r (nI_1 _) (ih (q + 1) n _ (by omega) (by omega) (fun m hm => ?_)))
    by_cases w : m = q
    · rw [w, pk_us]
    · rw [pk_un w]; exact h1 m (by omega)
theorem yb_117 {post : Int32 → SY → Prop} {N : Nat} {x1 x4 x5 x7 : Int32} (N5 : N ≤ 5)
    (h : ∀ fn2 : Nat → Int32, (∀ m, m < N → fn2 m = sn m) → ∀ post' : Int32 → SY → Prop, (∀ (r : Int32) (ls es tt se fr : Int32) (st nm pa ve sz sm it dr th sY tY dl dy dm vc ms me cr hd hN ps la ey tn tm sn sc fn fc : Nat → Int32), post r (ls, es, tt, se, fr, st, nm, pa, ve, sz, sm, it, dr, th, sY, tY, dl, dy, dm, vc, ms, me, cr, hd, hN, ps, la, ey, tn, tm, sn, sc, fn, fc) → post' r (ls, es, tt, se, fr, st, nm, pa, ve, sz, sm, it, dr, th, sY, tY, dl, dy, dm, vc, ms, me, cr, hd, hN, ps, la, ey, tn, tm, sn, sc, fn, fc)) → wpY_cover post' (ls, es, tt, nI N, nI N, st, nm, pa, ve, sz, sm, it, dr, th, sY, tY, dl, dy, dm, vc, ms, me, cr, hd, hN, ps, la, ey, tn, tm, sn, sc, fn2, fc) x1 x7 x4 x5) :
    ∀ (e q n : Nat) (fn2 : Nat → Int32), q + e = N → e < n → (∀ m, m < q → fn2 m = sn m) → wY_bind_117 post x1 x4 x5 x7 ls es tt (nI N) (nI N) n (nI q) st nm pa ve sz sm it dr th sY tY dl dy dm vc ms me cr hd hN ps la ey tn tm sn sc fn2 fc := by
  intro e
  induction e with
  | zero =>
    intro q n fn2 hq hn h1
    obtain ⟨n, rfl⟩ : ∃ n', n = n' + 1 := ⟨n - 1, by omega⟩
    have : q = N := by omega
    subst this
    exact br_t (Int32.le_refl _) (h fn2 h1 _ (fun r ls es tt se fr st nm pa ve sz sm it dr th sY tY dl dy dm vc ms me cr hd hN ps la ey tn tm sn sc fn fc z => z))
  | succ e ih =>
    intro q n fn2 hq hn h1
    obtain ⟨n, rfl⟩ : ∃ n', n = n' + 1 := ⟨n - 1, by omega⟩
    have iq := bt_ix5 (q := q) (by omega)
    have iq' := bt_ix11 (q := q) (by omega)
    refine br_f (nI_ge (by omega) (by omega)) ⟨iq.2.2.2.2.1, iq'.2.2.2.2.1, ?_⟩
    rw [iq.2.2.2.2.2.1]
    refine nm_e (nm_r (nI_1 _) (ih (q + 1) n _ (by omega) (by omega) (fun m hm => ?_)))
    by_cases w : m = q
    · rw [w, pk_us]
    · rw [pk_un w]; exact h1 m (by omega)
end
theorem i_vc_mount {k : Nat} {u : SX} {v : SY} (I : i_Rel k u v) (hk : k + 6 ≤ 3072) (v1 : Int32) (v2 : Int32) (v3 : Int32) (v4 : Int32) (v5 : Int32) : wpX_mount (fun r u' => wpY_mount (fun r' v' => r' = r ∧ i_Rel (k + 6) u' v') v v1 v2 v3 v4 (lw_bz v5)) u v1 v2 v3 v4 (lw_bz v5) := by
  obtain ⟨ls, tl, ec, kc, es, tt, se, fr, st, dr, nm, pa, ve, sz, it, sm, hl, th, sp, tb, dl, dn, cc, cv, mn, mc, oc, on, om, op, tr, el, cm, sY, tY, dy, dm, vc, ms, me, cr, hd, hN, ps, la, ey, tn, tm, sn, sc, fn, fc, s, s', t, t', rfl, rfl, R⟩ := I
  obtain ⟨m, D, rx, dx⟩ := bt_xd v3
  have hb : bt_B (lw_bz v5) := lw_bz_01 v5
  unfold wpX_mount
  by_cases hp0 : ∃ q, q < 4 ∧ v1 = nI q ∧ th q ≠ 0
  · obtain ⟨p, hp, rfl, tp⟩ := hp0
    have ip := bt_ix4 hp
    -- Y refuses: what it owes once the process and the path are seen to
    have Yr : ((bt_g m D → (v2 < 0 ∨ (¬ v2 < 0 ∧ 2 < v2) ∨ (¬ v2 < 0 ∧ ¬ 2 < v2 ∧ v4 < 0) ∨ (¬ v2 < 0 ∧ ¬ 2 < v2 ∧ ¬ v4 < 0 ∧ ¬ v4 ≤ 2)))) → wpY_mount (fun r' v' => r' = -1 ∧ i_Rel (k + 6) (ls, tl, ec, kc, st, dr, nm, pa, ve, sz, it, sm, hl, th, sp, tb, dl, dn, cc, cv, mn, mc, oc, on, om, op, tr, el, cm) v') (ls, es, tt, se, fr, st, nm, pa, ve, sz, sm, it, dr, th, sY, tY, dl, dy, dm, vc, ms, me, cr, hd, hN, ps, la, ey, tn, tm, sn, sc, fn, fc) (nI p) v2 v3 v4 (lw_bz v5) := by
      intro h
      unfold wpY_mount
      by_cases g : bt_g m D
      · refine yy_isPath1 hp tp rx dx g (fun ey2 _ => br_f (by decide) ?_)
        rcases h g with a | ⟨a, b⟩ | ⟨a, b, c⟩ | ⟨a, b, c, d⟩
        · exact br_t a ⟨rfl, bt_mkR R⟩
        · exact br_f a (br_t b ⟨rfl, bt_mkR R⟩)
        · exact br_f a (br_f b (br_t c ⟨rfl, bt_mkR R⟩))
        · exact br_f a (br_f b (br_f c (br_f d ⟨rfl, bt_mkR R⟩)))
      · exact yy_isPath0 rx dx (fun z => g z.2) (fun es2 ey2 => br_t rfl ⟨rfl, bt_mkR R⟩)
    refine xx_isP1 hp tp (br_f (by decide) ?_)
    by_cases a : v2 < 0
    · exact br_t a (Yr (fun _ => Or.inl a))
    by_cases b : (3 : Int32) ≤ v2
    · exact br_f a (br_t b (Yr (fun _ => Or.inr (Or.inl ⟨a, Int32.lt_of_lt_of_le (by decide) b⟩))))
    obtain ⟨tree, t3, rfl⟩ : ∃ j, j < 3 ∧ v2 = nI j := by
      rcases pk_ix v2 (n := 3) (by decide) with z | z | z
      · exact absurd z a
      · exact absurd z b
      · exact z
    have b2 : ¬ (2 : Int32) < nI tree := Int32.not_lt.mpr (nI_le (b := 2) (by omega) (by decide))
    refine br_f a (br_f b (xx_path rx dx (fun gx => br_f (by decide) (xx_ord (fun q0 q2 => br_f (by decide) ?_) (fun q => br_t rfl (Yr (fun _ => ?_))))) (fun g => br_t rfl (Yr (fun z => absurd z g)))))
    · obtain ⟨ord, o2, rfl⟩ := bt_ord q0 q2
      obtain ⟨r, L', tr', el2, an, hT2, fX, fY⟩ := ev_R (ls := ls) (tl := tl) (ec := ec) (kc := kc) (st := st) (dr := dr) (nm := nm) (pa := pa) (ve := ve) (sz := sz) (it := it) (sm := sm) (hl := hl) (th := th) (sp := sp) (tb := tb) (dl := dl) (dn := dn) (cc := cc) (cv := cv) (mn := mn) (mc := mc) (oc := oc) (on := on) (om := om) (op := op) (tr := tr) (el := el) (cm := cm) R hp tp rx dx gx
      have toY : ∀ post : Int32 → SY → Prop, (∀ (es2 se2 : Int32) (ey2 tn2 tm2 sn2 sc2 : Nat → Int32), ((0 ≤ r → (vp_in r 48 ∧ ((dr r.toNatClampNeg = 0 → post (-7) (ls, es2, nI L', se2, fr, st, nm, pa, ve, sz, sm, it, dr, th, sY, tY, dl, dy, dm, vc, ms, me, cr, hd, hN, ps, la, ey2, tn2, tm2, sn2, sc2, fn, fc)) ∧ (¬ dr r.toNatClampNeg = 0 → ∀ fn2, fn2 = upd fn 0 (nI tree) → ∀ post' : Int32 → SY → Prop, (∀ (r : Int32) (ls es tt se fr : Int32) (st nm pa ve sz sm it dr th sY tY dl dy dm vc ms me cr hd hN ps la ey tn tm sn sc fn fc : Nat → Int32), post r (ls, es, tt, se, fr, st, nm, pa, ve, sz, sm, it, dr, th, sY, tY, dl, dy, dm, vc, ms, me, cr, hd, hN, ps, la, ey, tn, tm, sn, sc, fn, fc) → post' r (ls, es, tt, se, fr, st, nm, pa, ve, sz, sm, it, dr, th, sY, tY, dl, dy, dm, vc, ms, me, cr, hd, hN, ps, la, ey, tn, tm, sn, sc, fn, fc)) → wpY_cover post' (ls, es2, nI L', se2, 1, st, nm, pa, ve, sz, sm, it, dr, th, sY, tY, dl, dy, dm, vc, ms, me, cr, hd, hN, ps, la, ey2, tn2, tm2, sn2, sc2, fn2, fc) (nI p) r (nI ord) (lw_bz v5))))) ∧
          (¬ 0 ≤ r → post r (ls, es2, nI L', se2, fr, st, nm, pa, ve, sz, sm, it, dr, th, sY, tY, dl, dy, dm, vc, ms, me, cr, hd, hN, ps, la, ey2, tn2, tm2, sn2, sc2, fn, fc)))) → wpY_mount post (ls, es, tt, se, fr, st, nm, pa, ve, sz, sm, it, dr, th, sY, tY, dl, dy, dm, vc, ms, me, cr, hd, hN, ps, la, ey, tn, tm, sn, sc, fn, fc) (nI p) (nI tree) v3 (nI ord) (lw_bz v5) := by
        intro post h
        unfold wpY_mount
        refine yy_isPath1 hp tp rx dx gx (fun ey2 _ => br_f (by decide) (br_f a (br_f b2 (br_f q0 (br_t q2 (fY _ _ _ _ _ _ _ _ _ _ _ _ (fun es2 se2 ey3 tn2 tm2 sn2 sc2 ht => ?_)))))))
        have hh := h es2 se2 ey3 tn2 tm2 sn2 sc2
        refine br_c (fun z => ⟨(hh.1 z).1, br_c (fun y => (hh.1 z).2.1 y) (fun y fn2 e => (hh.1 z).2.2 y fn2 e _ (fun r ls es tt se fr st nm pa ve sz sm it dr th sY tY dl dy dm vc ms me cr hd hN ps la ey tn tm sn sc fn fc w => w))⟩) (fun z => hh.2 z)
      rcases bt_an2 an with ng | ⟨n, hn, rfl, zn, _⟩
      · exact fX _ (br_f ng (toY _ (fun es2 se2 ey2 tn2 tm2 sn2 sc2 => br_f ng ⟨rfl, bt_mkR R⟩)))
      · have i0 : (0 : Int32) ≤ nI n := nI_pos' (by omega)
        have ix := bt_ix48 hn
        by_cases d0 : dr n = 0
        · have d0' : dr (nI n).toNatClampNeg = 0 := by rw [ix.2.2.2.2.2.1]; exact d0
          exact fX _ (br_t i0 ⟨ix.2.2.2.2.1, br_t d0' (toY _ (fun es2 se2 ey2 tn2 tm2 sn2 sc2 => br_t i0 ⟨ix.2.2.2.2.1, br_t d0' ⟨rfl, bt_mkR R⟩⟩))⟩)
        · have d0' : ¬ dr (nI n).toNatClampNeg = 0 := by rw [ix.2.2.2.2.2.1]; exact d0
          have Nov : bt_N st (nI n) := ⟨n, hn, rfl, zn⟩
          refine fX _ (br_t i0 ⟨ix.2.2.2.2.1, br_f d0' (nm_e ⟨ip.2.2.2.2.1, ?_⟩)⟩)
          show wpX_coverWithComing _ (ls, nI L', nI D, 1, st, dr, nm, pa, ve, sz, it, sm, hl, th, sp, tb, dl, dn, cc, cv, mn, mc, oc, on, om, op, tr', el2, upd cm 0 (nI tree)) (sp (nI p).toNatClampNeg) (nI n) (nI ord) (lw_bz v5)
          rw [ip.2.2.2.2.2.1, (R.2.2.2.1.1 p hp).1]
          rcases cov_R (ls := ls) (tl := nI L') (ec := nI D) (st := st) (dr := dr) (nm := nm) (pa := pa) (ve := ve) (sz := sz) (it := it) (sm := sm) (hl := hl) (th := th) (sp := sp) (tb := tb) (dl := dl) (dn := dn) (cc := cc) (cv := cv) (mn := mn) (mc := mc) (oc := oc) (on := on) (om := om) (op := op) (tr := tr') (el := el2) (cm := upd cm 0 (nI tree)) (sY := sY) (tY := tY) (dy := dy) (dm := dm) (vc := vc) (ms := ms) (me := me) (cr := cr) (hd := hd) (hN := hN) (ps := ps) (la := la) (p := p) (ov := n) (N := 1) (ord := ord) (b := lw_bz v5) (g := fun _ => nI tree) R hp tp Nov o2 (by omega) (by omega) (fun m hm => ⟨tree, by omega, rfl, R.1.2.1 tree t3⟩) hb (fun m hm => by
            have : m = 0 := by omega
            rw [this]; exact pk_us) with ⟨cX, cY⟩ | ⟨r2, Q, cX, cY⟩
          · exact cX _ (toY _ (fun es2 se2 ey2 tn2 tm2 sn2 sc2 => br_t i0 ⟨ix.2.2.2.2.1, br_f d0' (fun fn2 e post' hpp => cY post' _ _ _ _ _ _ _ _ fn2 _ (fun m hm => by
              have : m = 0 := by omega
              rw [this, e]; exact pk_us) (fun se3 sn3 sc3 => hpp _ _ _ _ _ _ _ _ _ _ _ _ _ _ _ _ _ _ _ _ _ _ _ _ _ _ _ _ _ _ _ _ _ _ _ ⟨rfl, bt_mkR R⟩))⟩))
          · exact cX _ (fun st2 hl2 cc2 cv2 mn2 mc2 q => toY _ (fun es2 se2 ey2 tn2 tm2 sn2 sc2 => br_t i0 ⟨ix.2.2.2.2.1, br_f d0' (fun fn2 e post' hpp => cY st2 cc2 cv2 mn2 mc2 q post' _ _ _ _ _ _ _ _ fn2 _ (fun m hm => by
              have : m = 0 := by omega
              rw [this, e]; exact pk_us) (fun se3 sn3 sc3 vc2 ms2 me2 cr2 R2 => hpp _ _ _ _ _ _ _ _ _ _ _ _ _ _ _ _ _ _ _ _ _ _ _ _ _ _ _ _ _ _ _ _ _ _ _ ⟨rfl, bt_mkR R2⟩))⟩))
    · by_cases w : v4 < 0
      · exact Or.inr (Or.inr (Or.inl ⟨a, b2, w⟩))
      · exact Or.inr (Or.inr (Or.inr ⟨a, b2, w, fun y => q ⟨w, y⟩⟩))
  · refine xx_isP0 hp0 (br_t rfl ?_)
    unfold wpY_mount
    exact yy_isPath0 rx dx (fun z => hp0 z.1) (fun es2 ey2 => br_t rfl ⟨rfl, bt_mkR R⟩)
