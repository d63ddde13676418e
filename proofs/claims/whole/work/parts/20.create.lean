section
variable {ls tl ec kc : Int32} {st dr nm pa ve sz it sm hl th sp tb dl dn cc cv mn mc oc on om op tr el cm : Nat → Int32} {es tt se fr : Int32} {sY tY dy dm vc ms me cr hd hN ps la ey tn tm sn sc fn fc : Nat → Int32} {s s' t t' : Nat → Nat}
theorem ev_R1 {p m D : Nat} {x y : Int32} (R : bt_R st dr nm pa sz th dl sp tb dn cc cv mn mc oc on om op sY tY dy dm vc ms me cr hd hN ps la s s' t t') (hp : p < 4) (tp : th p ≠ 0) (rx : bt_rw x m) (dx : bt_dg m D) (gx : bt_g m D) (D1 : 1 ≤ D) (ry : bt_rw y (m / 11)) (sg : y < 0 ↔ x < 0) :
    ∃ (r : Int32) (L' : Nat) (tr' el2 : Nat → Int32), bt_an st tr' r L' ∧ (∃ tn tm, bt_tr st nm tr' tn tm L') ∧
      (∀ post : Int32 → SX → Prop, post r (ls, nI L', nI (D - 1), kc, st, dr, nm, pa, ve, sz, it, sm, hl, th, sp, tb, dl, dn, cc, cv, mn, mc, oc, on, om, op, tr', el2, cm) → wpX_evaluate post (ls, tl, ec, kc, st, dr, nm, pa, ve, sz, it, sm, hl, th, sp, tb, dl, dn, cc, cv, mn, mc, oc, on, om, op, tr, el, cm) (nI p) y) ∧
      (∀ (post : Int32 → SY → Prop) (es tt se fr : Int32) (ey tn tm sn sc fn fc : Nat → Int32), (∀ (es2 se2 : Int32) (ey2 tn2 tm2 sn2 sc2 : Nat → Int32), bt_tr st nm tr' tn2 tm2 L' → post r (ls, es2, nI L', se2, fr, st, nm, pa, ve, sz, sm, it, dr, th, sY, tY, dl, dy, dm, vc, ms, me, cr, hd, hN, ps, la, ey2, tn2, tm2, sn2, sc2, fn, fc)) →
        wpY_evaluate post (ls, es, tt, se, fr, st, nm, pa, ve, sz, sm, it, dr, th, sY, tY, dl, dy, dm, vc, ms, me, cr, hd, hN, ps, la, ey, tn, tm, sn, sc, fn, fc) (nI p) x 1) := by
  obtain ⟨RA, B1, B2, RS, RT, RP⟩ := R
  obtain ⟨hT, hC, hD⟩ := RP p hp tp
  obtain ⟨sa, ha, sb, hb⟩ := RS.1 p hp
  have dy0 : bt_dg (m / 11) (D - 1) := by
    refine ⟨by have := dx.1; omega, fun j => ?_⟩
    rw [bt_dv', ← dx.2 (j + 1)]; omega
  have gy : bt_g (m / 11) (D - 1) := by
    refine ⟨by have := gx.1; omega, fun j hj => ?_⟩
    rw [bt_dv']; exact gx.2 (j + 1) (by omega)
  obtain ⟨r, L', tr', el2, an, hT2, fX, fY⟩ := ev_t (ls := ls) (tl := tl) (ec := ec) (kc := kc) (st := st) (dr := dr) (nm := nm) (pa := pa) (ve := ve) (sz := sz) (it := it) (sm := sm) (hl := hl) (th := th) (sp := sp) (tb := tb) (dl := dl) (dn := dn) (cc := cc) (cv := cv) (mn := mn) (mc := mc) (oc := oc) (on := on) (om := om) (op := op) (tr := tr) (el := el) (cm := cm) (lv := 1) hp ha hb sa sb B2 hC tp hT (RA.2.1 0 (by omega)) ry dy0 gy rx dx gx sg (bt_s1 (by omega))
    (fun j hj => by
      have : D - 1 - (D - 1 - 1 - j) = j + 1 := by omega
      rw [this, bt_dv']) (by omega)
  exact ⟨r, L', tr', el2, an, hT2, fX, fun post es tt se fr ey tn tm sn sc fn fc h => fY post es tt se fr ey tn tm sn sc fn fc (fun ey2 tn2 tm2 sn2 sc2 se2 _ ht => h _ _ _ _ _ _ _ ht)⟩
theorem yy_fn_l {post : Int32 → SY → Prop} {b y x : Int32} : ∀ (e i n : Nat), i + e = 48 → e < n → (∀ f, bt_f (fun n => st n = 0) i e = some f → wY_create_204 post b y x (nI f) ls es tt se fr st nm pa ve sz sm it dr th sY tY dl dy dm vc ms me cr hd hN ps la ey tn tm sn sc fn fc) → (bt_f (fun n => st n = 0) i e = none → wY_create_204 post b y x 48 ls es tt se fr st nm pa ve sz sm it dr th sY tY dl dy dm vc ms me cr hd hN ps la ey tn tm sn sc fn fc) → wY_create_181 post b y x ls es tt se fr st nm pa ve sz sm it dr th sY tY dl dy dm vc ms me cr hd hN ps la ey tn tm sn sc fn fc n (nI i) := by
  intro e
  induction e with
  | zero =>
    intro i n hi hn h1 h2
    obtain ⟨n, rfl⟩ : ∃ n', n = n' + 1 := ⟨n - 1, by omega⟩
    have : i = 48 := by omega
    subst this
    exact br_t (by decide) (h2 rfl)
  | succ e ih =>
    intro i n hi hn h1 h2
    obtain ⟨n, rfl⟩ : ∃ n', n = n' + 1 := ⟨n - 1, by omega⟩
    have ix := bt_ix48 (q := i) (by omega)
    simp only [bt_f] at h1 h2
    refine br_f ix.2.2.2.1 ⟨ix.2.2.2.2.1, ?_⟩
    rw [ix.2.2.2.2.2.1]
    refine br_c (fun z => h1 i (if_pos z)) (fun z => nm_r (nI_1 _) ?_)
    rw [if_neg z] at h1 h2
    exact ih (i + 1) n (by omega) (by omega) h1 h2
theorem cr_tail {q : Nat} {b y : Int32} (R : bt_R st dr nm pa sz th dl sp tb dn cc cv mn mc oc on om op sY tY dy dm vc ms me cr hd hN ps la s s' t t') (hq : q < 48) (sq : st q ≠ 0) (hb : bt_B b) :
    ∃ (r ls2 : Int32) (st2 dr2 nm2 pa2 ve2 sz2 sm2 : Nat → Int32), bt_R st2 dr2 nm2 pa2 sz2 th dl sp tb dn cc cv mn mc oc on om op sY tY dy dm vc ms me cr hd hN ps la s s' t t' ∧
      (∀ post : Int32 → SX → Prop, post r (ls2, tl, ec, kc, st2, dr2, nm2, pa2, ve2, sz2, it, sm2, hl, th, sp, tb, dl, dn, cc, cv, mn, mc, oc, on, om, op, tr, el, cm) → wX_create_117 post b y (nI q) ls tl ec kc st dr nm pa ve sz it sm hl th sp tb dl dn cc cv mn mc oc on om op tr el cm) ∧
      (∀ (post : Int32 → SY → Prop) (es tt se fr : Int32) (ey tn tm sn sc fn fc : Nat → Int32), post r (ls2, es, tt, se, fr, st2, nm2, pa2, ve2, sz2, sm2, it, dr2, th, sY, tY, dl, dy, dm, vc, ms, me, cr, hd, hN, ps, la, ey, tn, tm, sn, sc, fn, fc) → wY_create_164 post b y (nI q) ls es tt se fr st nm pa ve sz sm it dr th sY tY dl dy dm vc ms me cr hd hN ps la ey tn tm sn sc fn fc) := by
  have iq := bt_ix48 hq
  by_cases g : st q = 2
  · refine ⟨-2, ls, st, dr, nm, pa, ve, sz, sm, R, fun post h => br_f iq.2.2.2.2.2.2 ⟨iq.2.2.2.2.1, br_t ?_ h⟩, fun post es tt se fr ey tn tm sn sc fn fc h => ⟨iq.2.2.2.2.1, br_t ?_ h⟩⟩
    · rw [iq.2.2.2.2.2.1]; exact g
    · rw [iq.2.2.2.2.2.1]; exact g
  · cases o : bt_f (fun n => st n = 0) 3 45 with
    | none =>
      refine ⟨-6, ls, st, dr, nm, pa, ve, sz, sm, R, fun post h => br_f iq.2.2.2.2.2.2 ⟨iq.2.2.2.2.1, br_f ?_ (xx_freeNode ?_)⟩, fun post es tt se fr ey tn tm sn sc fn fc h => ⟨iq.2.2.2.2.1, br_f ?_ ⟨46, yy_fn_l 45 3 46 rfl (by omega) (fun f hf => ?_) (fun _ => br_t rfl h)⟩⟩⟩
      · rw [iq.2.2.2.2.2.1]; exact g
      · rw [o]; exact br_t rfl h
      · rw [iq.2.2.2.2.2.1]; exact g
      · rw [o] at hf; cases hf
    | some f =>
      obtain ⟨f3, f48, f0, _⟩ := bt_f_s 45 3 o
      have hf : f < 48 := by omega
      have jf := bt_ix48 hf
      have R2 : bt_R (upd st f 1) (upd dr f b) (upd nm f y) (upd pa f (nI q)) (upd sz f 0) th dl sp tb dn cc cv mn mc oc on om op sY tY dy dm vc ms me cr hd hN ps la s s' t t' := by
        refine bt_upN R ⟨bt_Bu R.1.1 hb, fun n hn => ?_, fun n hn => ?_⟩ (fun n hn hH hz => ?_)
        · rw [pk_un (by omega)]; exact R.1.2.1 n hn
        · by_cases e : n = f
          · rw [e, pk_us, pk_us, pk_us, pk_us]
            exact ⟨fun _ _ => ⟨q, hq, rfl⟩, fun _ => ⟨0, by omega, rfl⟩, fun _ => rfl⟩
          · rw [pk_un e, pk_un e, pk_un e, pk_un e]; exact R.1.2.2 n hn
        · have e : n ≠ f := fun e => by rw [e] at hz; exact hz f0
          rw [pk_un e, pk_un e, pk_un e, pk_un e]
          exact ⟨hz, rfl, rfl, fun _ z hz6 ez => ⟨z, Nat.le_refl _, hz6, ez⟩⟩
      refine ⟨nI f, ls + 1, upd st f 1, upd dr f b, upd nm f y, upd pa f (nI q), upd (upd ve f 0) q (upd ve f 0 q + 1), upd sz f 0, upd sm f (ls + 1), R2, fun post h => br_f iq.2.2.2.2.2.2 ⟨iq.2.2.2.2.1, br_f ?_ (xx_freeNode ?_)⟩, fun post es tt se fr ey tn tm sn sc fn fc h => ⟨iq.2.2.2.2.1, br_f ?_ ⟨46, yy_fn_l 45 3 46 rfl (by omega) (fun f' hf' => ?_) (fun z => by rw [o] at z; cases z)⟩⟩⟩
      · rw [iq.2.2.2.2.2.1]; exact g
      · rw [o]
        refine br_f jf.2.2.2.2.2.2 ?_
        show wpX_makeNode _ _ (nI f) (nI q) y b
        unfold wpX_makeNode
        have e1 := jf.2.2.2.2.2.1
        have e2 := iq.2.2.2.2.2.1
        refine nm_e ⟨jf.2.2.2.2.1, nm_r (by rw [e1]) ⟨jf.2.2.2.2.1, nm_r (by rw [e1, bt_nB hb]) ⟨jf.2.2.2.2.1, nm_r (by rw [e1]) ⟨jf.2.2.2.2.1, nm_r (by rw [e1]) ⟨jf.2.2.2.2.1, nm_r (by rw [e1]) ⟨jf.2.2.2.2.1, nm_r (by rw [e1]) ⟨jf.2.2.2.2.1, nm_r (by rw [e1]) ⟨iq.2.2.2.2.1, iq.2.2.2.2.1, nm_r (by rw [e2]) h⟩⟩⟩⟩⟩⟩⟩⟩
      · rw [iq.2.2.2.2.2.1]; exact g
      · have ef : f' = f := by rw [o] at hf'; cases hf'; rfl
        subst ef
        have e1 := jf.2.2.2.2.2.1
        have e2 := iq.2.2.2.2.2.1
        refine br_f (fun z => by have := bt_inj (b := 48) (by omega) (by decide) z; omega) ?_
        refine ⟨jf.2.2.2.2.1, nm_r (by rw [e1]) ⟨jf.2.2.2.2.1, nm_r (by rw [e1]) ⟨jf.2.2.2.2.1, nm_r (by rw [e1]) ⟨jf.2.2.2.2.1, nm_r (by rw [e1]) ⟨jf.2.2.2.2.1, nm_r (by rw [e1]) ⟨jf.2.2.2.2.1, nm_r (by rw [e1, bt_nB hb]) (nm_e ⟨jf.2.2.2.2.1, nm_r (by rw [e1]) ⟨iq.2.2.2.2.1, iq.2.2.2.2.1, nm_r (by rw [e2]) h⟩⟩)⟩⟩⟩⟩⟩⟩
theorem yy_cm_l {post : Int32 → SY → Prop} {b y : Int32} {c : Nat} {P : Nat → Prop} [DecidablePred P] (c5 : c ≤ 5) (hP : ∀ m, m < c → (¬ sc m = 0 ↔ P m)) :
    ∀ (e m n : Nat), m + e = c → e < n → (∀ f, bt_f P m e = some f → wY_create_143 post b y (nI f) ls es tt (nI c) fr st nm pa ve sz sm it dr th sY tY dl dy dm vc ms me cr hd hN ps la ey tn tm sn sc fn fc) → (bt_f P m e = none → wY_create_143 post b y (nI c) ls es tt (nI c) fr st nm pa ve sz sm it dr th sY tY dl dy dm vc ms me cr hd hN ps la ey tn tm sn sc fn fc) → wY_create_118 post b y ls es tt (nI c) fr st nm pa ve sz sm it dr th sY tY dl dy dm vc ms me cr hd hN ps la ey tn tm sn sc fn fc n (nI m) := by
  intro e
  induction e with
  | zero =>
    intro m n hm hn h1 h2
    obtain ⟨n, rfl⟩ : ∃ n', n = n' + 1 := ⟨n - 1, by omega⟩
    have : m = c := by omega
    subst this
    exact br_t (Int32.le_refl _) (h2 rfl)
  | succ e ih =>
    intro m n hm hn h1 h2
    obtain ⟨n, rfl⟩ : ∃ n', n = n' + 1 := ⟨n - 1, by omega⟩
    have ix := bt_ix5 (q := m) (by omega)
    simp only [bt_f] at h1 h2
    refine br_f (nI_ge (by omega) (by omega)) ⟨ix.2.2.2.2.1, ?_⟩
    rw [ix.2.2.2.2.2.1]
    refine br_c (fun z => nm_r (nI_1 _) ?_) (fun z => h1 m (if_pos ((hP m (by omega)).mp z)))
    rw [if_neg (fun w => (hP m (by omega)).mpr w z)] at h1 h2
    exact ih (m + 1) n (by omega) (by omega) h1 h2
end
theorem i_vc_create {k : Nat} {u : SX} {v : SY} (I : i_Rel k u v) (hk : k + 6 ≤ 3072) (v1 : Int32) (v2 : Int32) (v3 : Int32) : wpX_create (fun r u' => wpY_create (fun r' v' => r' = r ∧ i_Rel (k + 6) u' v') v v1 v2 (lw_bz v3)) u v1 v2 (lw_bz v3) := by
  obtain ⟨ls, tl, ec, kc, es, tt, se, fr, st, dr, nm, pa, ve, sz, it, sm, hl, th, sp, tb, dl, dn, cc, cv, mn, mc, oc, on, om, op, tr, el, cm, sY, tY, dy, dm, vc, ms, me, cr, hd, hN, ps, la, ey, tn, tm, sn, sc, fn, fc, s, s', t, t', rfl, rfl, R⟩ := I
  obtain ⟨m, D, rx, dx⟩ := bt_xd v2
  have hb : bt_B (lw_bz v3) := lw_bz_01 v3
  unfold wpX_create
  by_cases hn : (∃ q, q < 4 ∧ v1 = nI q ∧ th q ≠ 0) ∧ bt_g m D
  · obtain ⟨⟨p, hp, rfl, tp⟩, gx⟩ := hn
    have ip := bt_ix4 hp
    have d9 := dx.1
    have d6 := gx.1
    by_cases en : m % 11 ≠ 0 ∧ m % 11 ≠ 10
    · have D1 : 1 ≤ D := by
        have h0 := dx.2 0
        rw [Nat.pow_zero, Nat.div_one] at h0
        have : 0 < D := h0.mpr (Nat.pos_of_ne_zero (fun z => en.1 (by rw [z])))
        omega
      refine xx_isP1 hp tp (br_f (by decide) (xx_path rx dx (fun _ => br_f (by decide) (xx_ends rx (fun _ => br_f (by decide) (xx_row rx ⟨bt_11, nm_r (bt_r11 rx.1) (xx_wol rx (fun y ry sg => ?_))⟩)) (fun z => absurd en z))) (fun z => absurd gx z)))
      obtain ⟨r, L', tr', el2, an, hT2, fX, fY⟩ := ev_R1 (ls := ls) (tl := tl) (ec := ec) (kc := kc) (st := st) (dr := dr) (nm := nm) (pa := pa) (ve := ve) (sz := sz) (it := it) (sm := sm) (hl := hl) (th := th) (sp := sp) (tb := tb) (dl := dl) (dn := dn) (cc := cc) (cv := cv) (mn := mn) (mc := mc) (oc := oc) (on := on) (om := om) (op := op) (tr := tr) (el := el) (cm := cm) R hp tp rx dx gx D1 ry sg
      have hey : ∀ ey2 : Nat → Int32, (∀ k, k < D → ey2 k = nI (m / 11 ^ (D - 1 - k) % 11)) → ey2 (nI D - 1).toNatClampNeg = nI (m % 11) := by
        intro ey2 h
        rw [bt_s1 (by omega), nI_clamp (by omega), h (D - 1) (by omega), Nat.sub_self, Nat.pow_zero, Nat.div_one]
      have id : vp_in (nI D - 1) 6 := by rw [bt_s1 (by omega)]; exact vp_in_nI (by omega) (by decide)
      have nD : ¬ nI D = 0 := nI_ne0 (by omega) (by omega)
      have n10 : ¬ nI (m % 11) = 10 := fun z => en.2 ((bt_e10 (by omega)).mp z)
      rcases bt_an2 an with ng | ⟨n, hn, rfl, zn, _⟩
      · refine fX _ (br_f ng ?_)
        unfold wpY_create
        exact yy_isPath1 hp tp rx dx gx (fun ey2 he => br_f (by decide) (br_f nD ⟨id, br_f (by rw [hey ey2 he]; exact n10) ⟨id, nm_r (hey ey2 he) (fY _ _ _ _ _ _ _ _ _ _ _ _ (fun es2 se2 ey3 tn2 tm2 sn2 sc2 ht => br_f ng ⟨rfl, bt_mkR R⟩))⟩⟩))
      · have J := R
        obtain ⟨RA, B1, B2, RS, RT, RP⟩ := J
        obtain ⟨hT, hC, hD⟩ := RP p hp tp
        obtain ⟨sa, ha, sb, hb4⟩ := RS.1 p hp
        have Nn : bt_N st (nI n) := ⟨n, hn, rfl, zn⟩
        obtain ⟨c, c1, c5, hv, hNs, hv0, hS⟩ := bt_view hC Nn
        have ho : ∀ k', bt_cf cc cv (s p) (nI n) = some k' → k' < 6 := fun k' hk' => (hS k' hk').1
        have i0 : (0 : Int32) ≤ nI n := nI_pos' (by omega)
        have ix := bt_ix48 hn
        by_cases d0 : dr n = 0
        · refine fX _ (br_t i0 ⟨ix.2.2.2.2.1, br_t (by rw [ix.2.2.2.2.2.1]; exact d0) ?_⟩)
          unfold wpY_create
          exact yy_isPath1 hp tp rx dx gx (fun ey2 he => br_f (by decide) (br_f nD ⟨id, br_f (by rw [hey ey2 he]; exact n10) ⟨id, nm_r (hey ey2 he) (fY _ _ _ _ _ _ _ _ _ _ _ _ (fun es2 se2 ey3 tn2 tm2 sn2 sc2 ht => br_t i0 ⟨ix.2.2.2.2.1, br_t (by rw [ix.2.2.2.2.2.1]; exact d0) ⟨rfl, bt_mkR R⟩⟩))⟩⟩))
        · refine fX _ (br_t i0 ⟨ix.2.2.2.2.1, br_f (by rw [ix.2.2.2.2.2.1]; exact d0) ⟨ip.2.2.2.2.1, ?_⟩⟩)
          rw [ip.2.2.2.2.2.1, sa]
          refine xx_coverOf ha (bt_Cc hC) (xx_lookUp ha c5 hv ho ?_)
          -- Y's walk up to the child
          have Yw : ∀ post : Int32 → SY → Prop,
              (∀ (es2 : Int32) (ey3 tn2 tm2 sn3 sc3 : Nat → Int32), (∀ m, m < c → sn3 m = bt_vg mn (s p) (nI n) (bt_cf cc cv (s p) (nI n)) m) → (∀ k, bt_cf cc cv (s p) (nI n) = some k → ∀ m, m < c → sc3 m = mc (5 * (6 * s p + k) + m)) →
                ((bt_o (bt_lk (fun d => bt_ch st pa nm d (nI (m % 11))) (bt_vg mn (s p) (nI n) (bt_cf cc cv (s p) (nI n))) 0 c) < 0 → ((bt_of (6 * s' p) (bt_cf cc cv (s p) (nI n)) < 0 → wY_create_164 post (lw_bz v3) (nI (m % 11)) (nI n) ls es2 (nI L') (nI c) fr st nm pa ve sz sm it dr th sY tY dl dy dm vc ms me cr hd hN ps la ey3 tn2 tm2 sn3 sc3 fn fc) ∧
                  (¬ bt_of (6 * s' p) (bt_cf cc cv (s p) (nI n)) < 0 → ∃ n118, wY_create_118 post (lw_bz v3) (nI (m % 11)) ls es2 (nI L') (nI c) fr st nm pa ve sz sm it dr th sY tY dl dy dm vc ms me cr hd hN ps la ey3 tn2 tm2 sn3 sc3 fn fc n118 0))) ∧
                 (¬ bt_o (bt_lk (fun d => bt_ch st pa nm d (nI (m % 11))) (bt_vg mn (s p) (nI n) (bt_cf cc cv (s p) (nI n))) 0 c) < 0 → post (-5) (ls, es2, nI L', nI c, fr, st, nm, pa, ve, sz, sm, it, dr, th, sY, tY, dl, dy, dm, vc, ms, me, cr, hd, hN, ps, la, ey3, tn2, tm2, sn3, sc3, fn, fc)))) →
              wpY_create post (ls, es, tt, se, fr, st, nm, pa, ve, sz, sm, it, dr, th, sY, tY, dl, dy, dm, vc, ms, me, cr, hd, hN, ps, la, ey, tn, tm, sn, sc, fn, fc) (nI p) v2 (lw_bz v3) := by
            intro post h
            unfold wpY_create
            refine yy_isPath1 hp tp rx dx gx (fun ey2 he => br_f (by decide) (br_f nD ⟨id, br_f (by rw [hey ey2 he]; exact n10) ⟨id, nm_r (hey ey2 he) (fY _ _ _ _ _ _ _ _ _ _ _ _ (fun es2 se2 ey3 tn2 tm2 sn2 sc2 ht => br_t i0 ⟨ix.2.2.2.2.1, br_f (by rw [ix.2.2.2.2.2.1]; exact d0) (yy_look hp hb4 sb B2 hC Nn rfl hv c1 c5 (fun sn3 sc3 g1 g2 g3 => yy_childSeen c5 g1 ?_))⟩))⟩⟩))
            refine br_c (fun z => ⟨ip.2.2.2.2.1, ?_⟩) (fun z => (h es2 ey3 tn2 tm2 sn3 sc3 g1 g3).2 z)
            have hh := (h es2 ey3 tn2 tm2 sn3 sc3 g1 g3).1 z
            rw [ip.2.2.2.2.2.1, sb]
            exact yy_coverOf hb4 hC (bt_Nx Nn) hh
          cases lk : bt_lk (fun d => bt_ch st pa nm d (nI (m % 11))) (bt_vg mn (s p) (nI n) (bt_cf cc cv (s p) (nI n))) 0 c with
          | some f =>
            have hf : f < 48 := by
              refine bt_lk_in (Q := fun f => f < 48) (fun y n hy => ?_) c 0 lk
              have := bt_f_s 45 3 hy
              omega
            have jf := bt_ix48 hf
            rw [lk] at Yw
            refine br_f jf.2.2.2.2.2.2 ?_
            have := Yw (fun r' v' => r' = -5 ∧ i_Rel (k + 6) (ls, nI L', nI (D - 1), kc, st, dr, nm, pa, ve, sz, it, sm, hl, th, sp, tb, dl, dn, cc, cv, mn, mc, oc, on, om, op, tr', el2, cm) v') (fun es2 ey3 tn2 tm2 sn3 sc3 g1 g3 => br_f jf.1 ⟨rfl, bt_mkR R⟩)
            exact this
          | none =>
            rw [lk] at Yw
            refine br_t rfl ?_
            cases oc0 : bt_cf cc cv (s p) (nI n) with
            | none =>
              obtain ⟨r2, ls2, st2, dr2, nm2, pa2, ve2, sz2, sm2, R2, tX, tY0⟩ := cr_tail (ls := ls) (tl := nI L') (ec := nI (D - 1)) (kc := kc) (st := st) (dr := dr) (nm := nm) (pa := pa) (ve := ve) (sz := sz) (it := it) (sm := sm) (hl := hl) (th := th) (sp := sp) (tb := tb) (dl := dl) (dn := dn) (cc := cc) (cv := cv) (mn := mn) (mc := mc) (oc := oc) (on := on) (om := om) (op := op) (tr := tr') (el := el2) (cm := cm) (b := lw_bz v3) (y := nI (m % 11)) R hn zn hb
              refine br_t rfl (tX _ ?_)
              have := Yw (fun r' v' => r' = r2 ∧ i_Rel (k + 6) (ls2, nI L', nI (D - 1), kc, st2, dr2, nm2, pa2, ve2, sz2, it, sm2, hl, th, sp, tb, dl, dn, cc, cv, mn, mc, oc, on, om, op, tr', el2, cm) v') (fun es2 ey3 tn2 tm2 sn3 sc3 g1 g3 => br_t (show (-1 : Int32) < 0 by decide) (by
                rw [oc0]
                exact br_t (show (-1 : Int32) < 0 by decide) (tY0 _ _ _ _ _ _ _ _ _ _ _ _ ⟨rfl, bt_mkR R2⟩)))
              exact this
            | some k6 =>
              obtain ⟨k6l, w1, w2, w3, w4, w5⟩ := hS k6 oc0
              have jk := bt_ix24 (q := 6 * s p + k6) (by omega)
              have jk' := bt_ix24 (q := 6 * s' p + k6) (by omega)
              refine br_f jk.2.2.2.2.2.2 (xx_creating (by omega) c5 w1 ?_)
              cases cf : bt_f (fun m => ¬ mc (5 * (6 * s p + k6) + m) = 0) 0 c with
              | none =>
                refine br_t rfl ?_
                have := Yw (fun r' v' => r' = -8 ∧ i_Rel (k + 6) (ls, nI L', nI (D - 1), kc, st, dr, nm, pa, ve, sz, it, sm, hl, th, sp, tb, dl, dn, cc, cv, mn, mc, oc, on, om, op, tr', el2, cm) v') (fun es2 ey3 tn2 tm2 sn3 sc3 g1 g3 => br_t (show (-1 : Int32) < 0 by decide) (by
                  rw [oc0]
                  refine br_f jk'.1 ⟨c + 1, yy_cm_l c5 (fun m' hm' => by rw [g3 k6 oc0 m' hm']) c 0 (c + 1) (by omega) (by omega) (fun f hf => ?_) (fun _ => br_t rfl ⟨rfl, bt_mkR R⟩)⟩
                  rw [cf] at hf; cases hf))
                exact this
              | some f =>
                obtain ⟨_, fc0, f0, _⟩ := bt_f_s c 0 cf
                have fc1 : f < c := by omega
                obtain ⟨q, hq, eq, sq⟩ := (w5 f fc1).2.2
                obtain ⟨r2, ls2, st2, dr2, nm2, pa2, ve2, sz2, sm2, R2, tX, tY0⟩ := cr_tail (ls := ls) (tl := nI L') (ec := nI (D - 1)) (kc := kc) (st := st) (dr := dr) (nm := nm) (pa := pa) (ve := ve) (sz := sz) (it := it) (sm := sm) (hl := hl) (th := th) (sp := sp) (tb := tb) (dl := dl) (dn := dn) (cc := cc) (cv := cv) (mn := mn) (mc := mc) (oc := oc) (on := on) (om := om) (op := op) (tr := tr') (el := el2) (cm := cm) (b := lw_bz v3) (y := nI (m % 11)) R hq sq hb
                show wX_create_117 _ (lw_bz v3) (nI (m % 11)) (mn (5 * (6 * s p + k6) + f)) _ _ _ _ _ _ _ _ _ _ _ _ _ _ _ _ _ _ _ _ _ _ _ _ _ _ _ _ _
                rw [eq]
                refine tX _ ?_
                have j5 := bt_ix5 (q := f) (by omega)
                have := Yw (fun r' v' => r' = r2 ∧ i_Rel (k + 6) (ls2, nI L', nI (D - 1), kc, st2, dr2, nm2, pa2, ve2, sz2, it, sm2, hl, th, sp, tb, dl, dn, cc, cv, mn, mc, oc, on, om, op, tr', el2, cm) v') (fun es2 ey3 tn2 tm2 sn3 sc3 g1 g3 => br_t (show (-1 : Int32) < 0 by decide) (by
                  rw [oc0] at g1 ⊢
                  refine br_f jk'.1 ⟨c + 1, yy_cm_l c5 (fun m' hm' => by rw [g3 k6 oc0 m' hm']) c 0 (c + 1) (by omega) (by omega) (fun f' hf' => ?_) (fun z => by rw [cf] at z; cases z)⟩
                  have ef : f' = f := by rw [cf] at hf'; cases hf'; rfl
                  subst ef
                  refine br_f (fun z => by have := bt_inj (by omega) (by omega) z; omega) ⟨j5.2.2.2.2.1, nm_r (show _ = nI q from ?_) (tY0 _ _ _ _ _ _ _ _ _ _ _ _ ⟨rfl, bt_mkR R2⟩)⟩
                  rw [j5.2.2.2.2.2.1, g1 f' fc1]; exact eq))
                exact this
    · refine xx_isP1 hp tp (br_f (by decide) (xx_path rx dx (fun _ => br_f (by decide) (xx_ends rx (fun z => absurd z en) (fun _ => br_t rfl ?_))) (fun z => absurd gx z)))
      unfold wpY_create
      refine yy_isPath1 hp tp rx dx gx (fun ey2 he => br_f (by decide) ?_)
      by_cases D0 : D = 0
      · subst D0
        exact br_t rfl ⟨rfl, bt_mkR R⟩
      · have nz : m % 11 ≠ 0 := by
          have := gx.2 0 (by omega)
          rw [Nat.pow_zero, Nat.div_one] at this
          exact this
        have e10 : m % 11 = 10 := Classical.byContradiction fun z => en ⟨nz, z⟩
        refine br_f (nI_ne0 (by omega) (by omega)) ?_
        rw [bt_s1 (by omega), nI_clamp (by omega), he (D - 1) (by omega), Nat.sub_self, Nat.pow_zero, Nat.div_one, e10]
        exact ⟨vp_in_nI (by omega) (by decide), br_t rfl ⟨rfl, bt_mkR R⟩⟩
  · by_cases hp : ∃ q, q < 4 ∧ v1 = nI q ∧ th q ≠ 0
    · obtain ⟨p, hp4, rfl, tp⟩ := hp
      have ng : ¬ bt_g m D := fun g => hn ⟨⟨p, hp4, rfl, tp⟩, g⟩
      refine xx_isP1 hp4 tp (br_f (by decide) (xx_path rx dx (fun z => absurd z ng) (fun _ => br_t rfl ?_)))
      unfold wpY_create
      exact yy_isPath0 rx dx hn (fun es2 ey2 => br_t rfl ⟨rfl, bt_mkR R⟩)
    · refine xx_isP0 hp (br_t rfl ?_)
      unfold wpY_create
      exact yy_isPath0 rx dx hn (fun es2 ey2 => br_t rfl ⟨rfl, bt_mkR R⟩)
