theorem i_vc_read {k : Nat} {u : SX} {v : SY} (I : i_Rel k u v) (hk : k + 6 ≤ 3072) (v1 : Int32) (v2 : Int32) : wpX_read (fun r u' => wpY_read (fun r' v' => r' = r ∧ i_Rel (k + 6) u' v') v v1 v2) u v1 v2 := by
  obtain ⟨ls, tl, ec, kc, es, tt, se, fr, st, dr, nm, pa, ve, sz, it, sm, hl, th, sp, tb, dl, dn, cc, cv, mn, mc, oc, on, om, op, tr, el, cm, sY, tY, dy, dm, vc, ms, me, cr, hd, hN, ps, la, ey, tn, tm, sn, sc, fn, fc, s, s', t, t', rfl, rfl, R⟩ := I
  unfold wpX_read wpY_read
  rcases slot_R (ls := ls) (tl := tl) (ec := ec) (kc := kc) (st := st) (dr := dr) (nm := nm) (pa := pa) (ve := ve) (sz := sz) (it := it) (sm := sm) (hl := hl) (th := th) (sp := sp) (tb := tb) (dl := dl) (dn := dn) (cc := cc) (cv := cv) (mn := mn) (mc := mc) (oc := oc) (on := on) (om := om) (op := op) (tr := tr) (el := el) (cm := cm) (es := es) (tt := tt) (se := se) (fr := fr) (sY := sY) (tY := tY) (dy := dy) (dm := dm) (vc := vc) (ms := ms) (me := me) (cr := cr) (hd := hd) (hN := hN) (ps := ps) (la := la) (ey := ey) (tn := tn) (tm := tm) (sn := sn) (sc := sc) (fn := fn) (fc := fc) R v1 v2 with ⟨fX, fY⟩ | ⟨p, d, c, hp, hd4, tp, ha, hb, c1, c5, u1, u2, fX, fY⟩
  · exact fX _ (br_t rfl (fY _ (br_f (by decide) ⟨rfl, bt_mkR R⟩)))
  · have ix := bt_ix16 (q := 4 * t p + d) (by omega)
    have iy := bt_ix16 (q := 4 * t' p + d) (by omega)
    have jx := bt_ix80 (q := 5 * (4 * t p + d)) (by omega)
    have jy := bt_ix80 (q := 5 * (4 * t' p + d)) (by omega)
    obtain ⟨c', c5', w1, w2, w3, w4⟩ := (R.2.2.2.2.2 p hp tp).2.2 d hd4
    have ec0 : c' = c := bt_inj (by omega) (by omega) (w1.symm.trans u1)
    subst ec0
    obtain ⟨n, hn, en, kd⟩ := w4 c1
    have en' : hN (5 * (4 * t' p + d)) = nI n := (w3 0 (by omega)).1.symm.trans en
    have im := bt_ix48 hn
    rcases kd with ⟨y1, q, hq, o1, o2, o3⟩ | ⟨y1, q, z, qz, z6, ez, eo, ep⟩
    · obtain ⟨r, om2, op2, ps2, la2, ⟨q2, l2, l3, l4⟩, a2, a3, a4, rX, rY⟩ := rd_l (ls := ls) (tl := tl) (ec := ec) (kc := kc) (st := st) (dr := dr) (nm := nm) (pa := pa) (ve := ve) (sz := sz) (it := it) (sm := sm) (hl := hl) (th := th) (sp := sp) (tb := tb) (dl := dl) (dn := dn) (cc := cc) (cv := cv) (mn := mn) (mc := mc) (oc := oc) (on := on) (tr := tr) (el := el) (cm := cm) (es := es) (tt := tt) (se := se) (fr := fr) (sY := sY) (tY := tY) (dy := dy) (dm := dm) (vc := vc) (ms := ms) (me := me) (cr := cr) (hd := hd) (hN := hN) (ey := ey) (tn := tn) (tm := tm) (sn := sn) (sc := sc) (fn := fn) (fc := fc) (i := 4 * t p + d) (j := 4 * t' p + d) (by omega) (by omega) c5' w2 (fun m hm => (w3 m hm).1) (c' - 1 - q) q om op ps la (by omega) o1 o2 o3
      refine fX _ (br_f ix.2.2.2.2.2.2 (xx_isDir (by omega) en hn (R.1.1 n) (br_f y1 ?_)))
      unfold wpX_readDirectories
      refine ⟨ix.2.2.2.2.1, nm_r (show _ = nI (c' - 1) from ?_) ⟨ix.2.2.2.2.1, nm_r (show _ = nI q from ?_) ⟨c' - 1 - q + 2, rX _ _ (by omega) (fY _ (br_t iy.2.1 ?_))⟩⟩⟩
      · rw [ix.2.2.2.2.2.1, w1, bt_s1 (by omega)]
      · rw [ix.2.2.2.2.2.1]; exact o1
      · rw [bt_5m, jy.2.2.2.2.2.1, en']
        refine ⟨jy.2.2.2.2.1, nm_e ⟨im.2.2.2.2.1, br_f (by rw [im.2.2.2.2.2.1]; exact y1) ⟨c' - 1 - q + 1, rY _ _ (by omega) ⟨rfl, ?_⟩⟩⟩⟩
        refine bt_mkR (bt_upD (p := p) (k := d) R hp hd4 tp (fun x hx => ⟨rfl, a3 x hx⟩) (fun _ _ => rfl) (fun x hx => ⟨rfl, a4 x hx⟩) (fun _ _ => rfl) ⟨c', c5', w1, w2, w3, fun _ => ⟨n, hn, en, Or.inl ⟨y1, q2, l2, l3, l4, a2⟩⟩⟩)
    · refine fX _ (br_f ix.2.2.2.2.2.2 (xx_isDir (by omega) en hn (R.1.1 n) (br_t y1 ?_)))
      unfold wpX_readFile
      show vp_in (nI (4 * t p + d) * 5) 80 ∧ _
      rw [bt_m5, jx.2.2.2.2.2.1, en, ix.2.2.2.2.2.1, eo]
      refine ⟨jx.2.2.2.2.1, nm_e ⟨ix.2.2.2.2.1, nm_e ⟨im.2.2.2.2.1, ?_⟩⟩⟩
      rw [im.2.2.2.2.2.1, ez]
      by_cases qlz : q < z
      · have i288 := bt_ix288 (q := 6 * n + q) (by omega)
        have e6 : nI n * 6 + nI q = nI (6 * n + q) := by rw [bt_m6, nI_add]
        rw [e6, i288.2.2.2.2.2.1, nI_1]
        refine br_t (nI_lt qlz (by omega)) ⟨ix.2.2.2.2.1, nm_e ⟨i288.2.2.2.2.1, fY _ (br_t iy.2.1 ?_)⟩⟩
        rw [bt_5m, jy.2.2.2.2.2.1, en']
        refine ⟨jy.2.2.2.2.1, nm_e ⟨im.2.2.2.2.1, br_t (by rw [im.2.2.2.2.2.1]; exact y1) ⟨iy.2.2.2.2.1, im.2.2.2.2.1, ?_⟩⟩⟩
        rw [iy.2.2.2.2.2.1, im.2.2.2.2.2.1, ep, ez, nI_1]
        refine br_t (nI_lt qlz (by omega)) ⟨iy.2.2.2.2.1, iy.2.2.2.2.1, nm_e ⟨iy.2.2.2.2.1, ?_⟩⟩
        have e6' : 6 * nI n + nI (q + 1) - 1 = nI (6 * n + q) := by rw [bt_6m, nI_add, bt_s1 (by omega)]; exact congrArg nI (by omega)
        rw [pk_us, e6', i288.2.2.2.2.2.1]
        exact ⟨i288.2.2.2.2.1, rfl, bt_mkR (bt_upD (p := p) (k := d) R hp hd4 tp (fun x hx => ⟨rfl, rfl, pk_un hx⟩) (fun _ _ => rfl) (fun x hx => ⟨rfl, pk_un hx, rfl⟩) (fun _ _ => rfl) ⟨c', c5', w1, w2, w3, fun _ => ⟨n, hn, en, Or.inr ⟨y1, q + 1, z, qlz, z6, ez, pk_us, pk_us⟩⟩⟩)⟩
      · refine br_f (nI_nlt (by omega) (by omega)) (fY _ (br_t iy.2.1 ?_))
        rw [bt_5m, jy.2.2.2.2.2.1, en']
        refine ⟨jy.2.2.2.2.1, nm_e ⟨im.2.2.2.2.1, br_t (by rw [im.2.2.2.2.2.1]; exact y1) ⟨iy.2.2.2.2.1, im.2.2.2.2.1, ?_⟩⟩⟩
        rw [iy.2.2.2.2.2.1, im.2.2.2.2.2.1, ep, ez]
        exact br_f (nI_nlt (by omega) (by omega)) ⟨rfl, bt_mkR R⟩
section
variable {ls tl ec kc : Int32} {st dr nm pa ve sz it sm hl th sp tb dl dn cc cv mn mc oc on om op tr el cm : Nat → Int32} {es tt se fr : Int32} {sY tY dy dm vc ms me cr hd hN ps la ey tn tm sn sc fn fc : Nat → Int32} {s s' t t' : Nat → Nat}
theorem xx_cld_l {post : Int32 → Prop} {a : Nat} (ha : a < 4) : ∀ (e i n : Nat), i + e = 4 → e < n → post (bt_o (bt_f (fun d => oc (4 * a + d) = 0) i e)) → wX_closedDescriptor_2 post (nI a) ls tl ec kc st dr nm pa ve sz it sm hl th sp tb dl dn cc cv mn mc oc on om op tr el cm n (nI i) := by
  intro e
  induction e with
  | zero =>
    intro i n hi hn h
    obtain ⟨n, rfl⟩ : ∃ n', n = n' + 1 := ⟨n - 1, by omega⟩
    have : i = 4 := by omega
    subst this
    exact br_t (by decide) h
  | succ e ih =>
    intro i n hi hn h
    obtain ⟨n, rfl⟩ : ∃ n', n = n' + 1 := ⟨n - 1, by omega⟩
    have ix := bt_ix4 (q := i) (by omega)
    have iy := bt_ix16 (q := 4 * a + i) (by omega)
    have e4 : nI a * 4 + nI i = nI (4 * a + i) := by rw [bt_m4, nI_add]
    simp only [bt_f] at h
    refine br_f ix.2.2.2.1 ?_
    rw [e4, iy.2.2.2.2.2.1]
    refine ⟨iy.2.2.2.2.1, br_c (fun z => ?_) (fun z => nm_r (nI_1 _) (ih (i + 1) n (by omega) (by omega) ?_))⟩
    · rw [if_pos z] at h; exact h
    · rw [if_neg z] at h; exact h
theorem xx_cld {post : Int32 → Prop} {a : Nat} (ha : a < 4) (h : post (bt_o (bt_f (fun d => oc (4 * a + d) = 0) 0 4))) : wpX_closedDescriptor post (ls, tl, ec, kc, st, dr, nm, pa, ve, sz, it, sm, hl, th, sp, tb, dl, dn, cc, cv, mn, mc, oc, on, om, op, tr, el, cm) (nI a) :=
  ⟨5, xx_cld_l ha 4 0 5 rfl (by omega) h⟩
theorem yy_op_l {post : Int32 → SY → Prop} {p a b : Nat} {x : Int32} (hp : p < 4) (hb : b < 4) (tb0 : tY p = nI b) (hD : ∀ k, k < 4 → ∃ c, c ≤ 5 ∧ oc (4 * a + k) = nI c ∧ hd (4 * b + k) = nI c) :
    ∀ (e i n : Nat), i + e = 4 → e < n → (∀ d, bt_f (fun d => oc (4 * a + d) = 0) i e = some d → wY_open_59 post (nI p) x (nI d) ls es tt se fr st nm pa ve sz sm it dr th sY tY dl dy dm vc ms me cr hd hN ps la ey tn tm sn sc fn fc) → (bt_f (fun d => oc (4 * a + d) = 0) i e = none → wY_open_59 post (nI p) x 4 ls es tt se fr st nm pa ve sz sm it dr th sY tY dl dy dm vc ms me cr hd hN ps la ey tn tm sn sc fn fc) → wY_open_28 post (nI p) x ls es tt se fr st nm pa ve sz sm it dr th sY tY dl dy dm vc ms me cr hd hN ps la ey tn tm sn sc fn fc n (nI i) := by
  have ip := bt_ix4 hp
  intro e
  induction e with
  | zero =>
    intro i n hi hn h1 h2
    obtain ⟨n, rfl⟩ : ∃ n', n = n' + 1 := ⟨n - 1, by omega⟩
    have : i = 4 := by omega
    subst this
    exact br_t (by decide) (h2 rfl)
  | succ e ih =>
    intro i n hi hn h1 h2
    obtain ⟨n, rfl⟩ : ∃ n', n = n' + 1 := ⟨n - 1, by omega⟩
    have ix := bt_ix4 (q := i) (by omega)
    have iy := bt_ix16 (q := 4 * b + i) (by omega)
    have e4 : 4 * nI b + nI i = nI (4 * b + i) := by rw [bt_4m, nI_add]
    obtain ⟨c, c5, u1, u2⟩ := hD i (by omega)
    simp only [bt_f] at h1 h2
    refine br_f ix.2.2.2.1 ⟨ip.2.2.2.2.1, ?_⟩
    rw [ip.2.2.2.2.2.1, tb0, e4, iy.2.2.2.2.2.1, u2]
    refine ⟨iy.2.2.2.2.1, ek_if (bt_le0 (by omega)) (fun z => h1 i (if_pos (by rw [u1, z]; rfl))) (fun z => nm_r (nI_1 _) ?_)⟩
    have nz : ¬ oc (4 * a + i) = 0 := by rw [u1]; exact fun y => z ((bt_e0 (by omega)).mp y)
    rw [if_neg nz] at h1 h2
    exact ih (i + 1) n (by omega) (by omega) h1 h2
theorem xx_op_l {post : Int32 → SX → Prop} {a i c : Nat} {x x4 : Int32} {o : Option Nat} (ha : a < 4) (hi : i < 16) (c5 : c ≤ 5) (ho : ∀ k, o = some k → k < 6)
    (h : ∀ on2 : Nat → Int32, (∀ m, m < c → on2 (5 * i + m) = bt_vg mn a x o m) → (∀ y, (y < 5 * i ∨ 5 * i + 5 ≤ y) → on2 y = on y) → post x4 (ls, tl, ec, kc, st, dr, nm, pa, ve, sz, it, sm, hl, th, sp, tb, dl, dn, cc, cv, mn, mc, upd oc i (nI c), on2, upd om i 0, upd op i 0, tr, el, cm)) :
    ∀ (e m n : Nat) (on2 : Nat → Int32), m + e = c → e < n → (∀ j, j < m → on2 (5 * i + j) = bt_vg mn a x o j) → (∀ y, (y < 5 * i ∨ 5 * i + 5 ≤ y) → on2 y = on y) →
      wX_open_71 post x x4 (nI i) (bt_of (6 * a) o) (nI c) ls tl ec kc n (nI m) st dr nm pa ve sz it sm hl th sp tb dl dn cc cv mn mc oc on2 om op tr el cm := by
  have ix := bt_ix16 hi
  intro e
  induction e with
  | zero =>
    intro m n on2 hm hn h1 h2
    obtain ⟨n, rfl⟩ : ∃ n', n = n' + 1 := ⟨n - 1, by omega⟩
    have : m = c := by omega
    subst this
    refine br_t (Int32.le_refl _) ⟨ix.2.2.2.2.1, ?_⟩
    rw [ix.2.2.2.2.2.1]
    exact nm_e ⟨ix.2.2.2.2.1, nm_e ⟨ix.2.2.2.2.1, nm_e (h on2 h1 h2)⟩⟩
  | succ e ih =>
    intro m n on2 hm hn h1 h2
    obtain ⟨n, rfl⟩ : ∃ n', n = n' + 1 := ⟨n - 1, by omega⟩
    have iz := bt_ix80 (q := 5 * i + m) (by omega)
    have e5 : nI i * 5 + nI m = nI (5 * i + m) := by rw [bt_m5, nI_add]
    refine br_f (nI_ge (by omega) (by omega)) (xx_seenNode ha (by omega) ho ?_)
    rw [e5, iz.2.2.2.2.2.1]
    refine ⟨iz.2.2.2.2.1, nm_e (nm_r (nI_1 _) (ih (m + 1) n _ (by omega) (by omega) (fun j hj => ?_) (fun y hy => ?_)))⟩
    · by_cases w : j = m
      · rw [w, pk_us]
      · rw [pk_un (by omega)]; exact h1 j (by omega)
    · rw [pk_un (by omega)]; exact h2 y hy
theorem yy_op2_l {post : Int32 → SY → Prop} {j c : Nat} {x4 : Int32} (hj : j < 16) (c5 : c ≤ 5)
    (h : ∀ hN2 : Nat → Int32, (∀ m, m < c → hN2 (5 * j + m) = sn m) → (∀ y, (y < 5 * j ∨ 5 * j + 5 ≤ y) → hN2 y = hN y) → post x4 (ls, es, tt, nI c, fr, st, nm, pa, ve, sz, sm, it, dr, th, sY, tY, dl, dy, dm, vc, ms, me, cr, hd, hN2, upd ps j 0, upd la j 0, ey, tn, tm, sn, sc, fn, fc)) :
    ∀ (e m n : Nat) (hN2 : Nat → Int32), m + e = c → e < n → (∀ i, i < m → hN2 (5 * j + i) = sn i) → (∀ y, (y < 5 * j ∨ 5 * j + 5 ≤ y) → hN2 y = hN y) →
      wY_open_101 post x4 (nI j) ls es tt (nI c) fr n (nI m) st nm pa ve sz sm it dr th sY tY dl dy dm vc ms me cr hd hN2 ps la ey tn tm sn sc fn fc := by
  have ix := bt_ix16 hj
  intro e
  induction e with
  | zero =>
    intro m n hN2 hm hn h1 h2
    obtain ⟨n, rfl⟩ : ∃ n', n = n' + 1 := ⟨n - 1, by omega⟩
    have : m = c := by omega
    subst this
    refine br_t (Int32.le_refl _) ⟨ix.2.2.2.2.1, ?_⟩
    rw [ix.2.2.2.2.2.1]
    exact nm_e ⟨ix.2.2.2.2.1, nm_e (h hN2 h1 h2)⟩
  | succ e ih =>
    intro m n hN2 hm hn h1 h2
    obtain ⟨n, rfl⟩ : ∃ n', n = n' + 1 := ⟨n - 1, by omega⟩
    have iz := bt_ix80 (q := 5 * j + m) (by omega)
    have iw := bt_ix5 (q := m) (by omega)
    have e5 : 5 * nI j + nI m = nI (5 * j + m) := by rw [bt_5m, nI_add]
    refine br_f (nI_ge (by omega) (by omega)) ?_
    rw [e5, iz.2.2.2.2.2.1, iw.2.2.2.2.2.1]
    refine ⟨iw.2.2.2.2.1, iz.2.2.2.2.1, nm_e (nm_r (nI_1 _) (ih (m + 1) n _ (by omega) (by omega) (fun j' hj' => ?_) (fun y hy => ?_)))⟩
    · by_cases w : j' = m
      · rw [w, pk_us]
      · rw [pk_un (by omega)]; exact h1 j' (by omega)
    · rw [pk_un (by omega)]; exact h2 y hy
end
theorem i_vc_open {k : Nat} {u : SX} {v : SY} (I : i_Rel k u v) (hk : k + 6 ≤ 3072) (v1 : Int32) (v2 : Int32) : wpX_open (fun r u' => wpY_open (fun r' v' => r' = r ∧ i_Rel (k + 6) u' v') v v1 v2) u v1 v2 := by
  obtain ⟨ls, tl, ec, kc, es, tt, se, fr, st, dr, nm, pa, ve, sz, it, sm, hl, th, sp, tb, dl, dn, cc, cv, mn, mc, oc, on, om, op, tr, el, cm, sY, tY, dy, dm, vc, ms, me, cr, hd, hN, ps, la, ey, tn, tm, sn, sc, fn, fc, s, s', t, t', rfl, rfl, R⟩ := I
  obtain ⟨m, D, rx, dx⟩ := bt_xd v2
  unfold wpX_open wpY_open
  by_cases hn : (∃ q, q < 4 ∧ v1 = nI q ∧ th q ≠ 0) ∧ bt_g m D
  · obtain ⟨⟨p, hp, rfl, tp⟩, gx⟩ := hn
    obtain ⟨r, L', tr', el2, an, hT2, fX, fY⟩ := ev_R (ls := ls) (tl := tl) (ec := ec) (kc := kc) (st := st) (dr := dr) (nm := nm) (pa := pa) (ve := ve) (sz := sz) (it := it) (sm := sm) (hl := hl) (th := th) (sp := sp) (tb := tb) (dl := dl) (dn := dn) (cc := cc) (cv := cv) (mn := mn) (mc := mc) (oc := oc) (on := on) (om := om) (op := op) (tr := tr) (el := el) (cm := cm) R hp tp rx dx gx
    have ip := bt_ix4 hp
    rcases bt_an2 an with ng | ⟨n, hn, rfl, zn, _⟩
    · exact fX _ (br_f ng (yy_isPath1 hp tp rx dx gx (fun ey2 _ => br_f (by decide) (fY _ _ _ _ _ _ _ _ _ _ _ _ (fun es2 se2 ey3 tn2 tm2 sn2 sc2 ht => br_f ng ⟨rfl, bt_mkR R⟩)))))
    · have J := R
      obtain ⟨RA, B1, B2, RS, RT, RP⟩ := J
      obtain ⟨hT, hC, hD⟩ := RP p hp tp
      obtain ⟨sa, ha, sb, hb⟩ := RS.1 p hp
      obtain ⟨ta, hta, tb0, htb⟩ := RT.1 p hp
      have hD' : ∀ k, k < 4 → ∃ c, c ≤ 5 ∧ oc (4 * t p + k) = nI c ∧ hd (4 * t' p + k) = nI c := fun k hk => by
        obtain ⟨c, c5, u1, u2, _⟩ := hD k hk
        exact ⟨c, c5, u1, u2⟩
      have Nn : bt_N st (nI n) := ⟨n, hn, rfl, zn⟩
      obtain ⟨c, c1, c5, hv, hNs, _, hS⟩ := bt_view hC Nn
      have ho : ∀ k', bt_cf cc cv (s p) (nI n) = some k' → k' < 6 := fun k' hk' => (hS k' hk').1
      have i0 : (0 : Int32) ≤ nI n := nI_pos' (by omega)
      cases od : bt_f (fun d => oc (4 * t p + d) = 0) 0 4 with
      | none =>
        refine fX _ (br_t i0 ⟨ip.2.2.2.2.1, ?_⟩)
        rw [ip.2.2.2.2.2.1, ta]
        refine xx_cld hta ?_
        rw [od]
        refine br_t rfl (yy_isPath1 hp tp rx dx gx (fun ey2 _ => br_f (by decide) (fY _ _ _ _ _ _ _ _ _ _ _ _ (fun es2 se2 ey3 tn2 tm2 sn2 sc2 ht => br_t i0 ⟨5, yy_op_l hp htb tb0 hD' 4 0 5 rfl (by omega) (fun d hd' => ?_) (fun _ => br_t rfl ⟨rfl, bt_mkR R⟩)⟩))))
        rw [od] at hd'; cases hd'
      | some d =>
        obtain ⟨_, d4, d0, _⟩ := bt_f_s 4 0 od
        have jd := bt_ix4 (q := d) (by omega)
        have ix := bt_ix16 (q := 4 * t p + d) (by omega)
        have iy := bt_ix16 (q := 4 * t' p + d) (by omega)
        refine fX _ (br_t i0 ⟨ip.2.2.2.2.1, ?_⟩)
        rw [ip.2.2.2.2.2.1, ta, sa]
        refine xx_cld hta ?_
        rw [od]
        refine br_f jd.2.2.2.2.2.2 ⟨ip.2.2.2.2.1, nm_r (show _ = nI (4 * t p + d) from ?_) ⟨ip.2.2.2.2.1, xx_coverOf ha (bt_Cc hC) (xx_seenCount ha ho ?_)⟩⟩
        · show nI (t p) * 4 + nI d = _
          rw [bt_m4, nI_add]
        rw [hv]
        refine ⟨c + 1, xx_op_l ha (by omega) c5 ho (fun on2 a1 a2 => ?_) c 0 (c + 1) on (by omega) (by omega) (fun j hj => by omega) (fun _ _ => rfl)⟩
        refine yy_isPath1 hp tp rx dx gx (fun ey2 _ => br_f (by decide) (fY _ _ _ _ _ _ _ _ _ _ _ _ (fun es2 se2 ey3 tn2 tm2 sn2 sc2 ht => br_t i0 ⟨5, yy_op_l hp htb tb0 hD' 4 0 5 rfl (by omega) (fun d' hd' => ?_) (fun z => by rw [od] at z; cases z)⟩)))
        have ed : d' = d := by rw [od] at hd'; cases hd'; rfl
        subst ed
        refine br_f (fun z => by have := bt_inj (b := 4) (by omega) (by decide) z; omega) (yy_look hp hb sb B2 hC Nn rfl hv c1 c5 (fun sn3 sc3 g1 _ _ => ⟨ip.2.2.2.2.1, ?_⟩))
        have e4 : 4 * tY (nI p).toNatClampNeg + nI d' = nI (4 * t' p + d') := by rw [ip.2.2.2.2.2.1, tb0, bt_4m, nI_add]
        refine nm_r e4 ⟨iy.2.2.2.2.1, ?_⟩
        rw [iy.2.2.2.2.2.1]
        refine nm_e ⟨c + 1, yy_op2_l (by omega) c5 (fun hN2 b1 b2 => ⟨rfl, ?_⟩) c 0 (c + 1) hN (by omega) (by omega) (fun j hj => by omega) (fun _ _ => rfl)⟩
        obtain ⟨n0, hn0, en0, zn0⟩ := hNs 0 (by omega)
        have f0 : on2 (5 * (4 * t p + d')) = nI n0 := (a1 0 (by omega)).trans en0
        refine bt_mkR (bt_upD (p := p) (k := d') R hp (by omega) tp (fun x hx => ⟨pk_un hx, pk_un hx, pk_un hx⟩) a2 (fun x hx => ⟨pk_un hx, pk_un hx, pk_un hx⟩) b2 ⟨c, c5, pk_us, pk_us, fun m' hm' => ⟨?_, ?_⟩, fun _ => ⟨n0, hn0, f0, ?_⟩⟩)
        · rw [a1 m' hm', b1 m' hm', g1 m' hm']
        · rw [a1 m' hm']; exact hNs m' hm'
        · by_cases y : dr n0 = 0
          · obtain ⟨z, z6, ez⟩ := (RA.2.2 n0 hn0).2.1 y
            exact Or.inr ⟨y, 0, z, by omega, z6, ez, pk_us, pk_us⟩
          · exact Or.inl ⟨y, 0, by omega, pk_us, pk_us, by rw [pk_us, pk_us]⟩
  · exact xx_ev0 rx dx hn (br_f (by decide) (yy_isPath0 rx dx hn (fun es2 ey2 => br_t rfl ⟨rfl, bt_mkR R⟩)))
