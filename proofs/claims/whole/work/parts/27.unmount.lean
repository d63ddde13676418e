/-- d cells from p on hold what stood one further -/
def bt_sh (f g : Nat → Int32) (base p d : Nat) : Prop := (∀ m, p ≤ m → m < p + d → g (base + m) = f (base + (m + 1))) ∧ (∀ x, (x < base + p ∨ base + p + d ≤ x) → g x = f x)
theorem bt_sh_0 {f : Nat → Int32} {base p : Nat} : bt_sh f f base p 0 := ⟨fun m h1 h2 => by omega, fun _ _ => rfl⟩
theorem bt_sh_s {f g : Nat → Int32} {base p d : Nat} (h : bt_sh f g base p d) : bt_sh f (upd g (base + (p + d)) (g (base + (p + d + 1)))) base p (d + 1) := by
  refine ⟨fun m h1 h2 => ?_, fun x hx => ?_⟩
  · by_cases w : m = p + d
    · rw [w, pk_us]; exact h.2 _ (by omega)
    · rw [pk_un (by omega)]; exact h.1 m h1 (by omega)
  · rw [pk_un (by omega)]; exact h.2 x (by omega)
theorem bt_sh_B {f g : Nat → Int32} {base p d : Nat} (h : bt_sh f g base p d) (hf : ∀ i, bt_B (f i)) : ∀ i, bt_B (g i) := by
  intro i
  by_cases z : i < base + p ∨ base + p + d ≤ i
  · rw [h.2 i z]; exact hf i
  · obtain ⟨m, rfl⟩ : ∃ m, i = base + m := ⟨i - base, by omega⟩
    rw [h.1 m (by omega) (by omega)]; exact hf _
section
variable {ls tl ec kc : Int32} {st dr nm pa ve sz it sm hl th sp tb dl dn cc cv mn mc oc on om op tr el cm : Nat → Int32} {es tt se fr : Int32} {sY tY dy dm vc ms me cr hd hN ps la ey tn tm sn sc fn fc : Nat → Int32} {s s' t t' : Nat → Nat} {mn2 mc2 me2 cr2 vc2 : Nat → Int32}
theorem xu_take_l {post : SX → Prop} {i c f : Nat} (hi : i < 24) (hc : c ≤ 5) (fc0 : f < c) (ec0 : cc i = nI c) (hB : ∀ x, bt_B (mc x))
    (h : ∀ mn2 mc2 : Nat → Int32, bt_sh mn mn2 (5 * i) f (c - 1 - f) → bt_sh mc mc2 (5 * i) f (c - 1 - f) → post (ls, tl, ec, kc, st, dr, nm, pa, ve, sz, it, sm, hl, th, sp, tb, dl, dn, upd cc i (nI (c - 1)), cv, mn2, mc2, oc, on, om, op, tr, el, cm)) :
    ∀ (e d n : Nat) (mn2 mc2 : Nat → Int32), f + 1 + d + e = c → e < n → bt_sh mn mn2 (5 * i) f d → bt_sh mc mc2 (5 * i) f d → wX_takeMemberOut_4 post (nI i) n (nI (f + 1 + d)) ls tl ec kc st dr nm pa ve sz it sm hl th sp tb dl dn cc cv mn2 mc2 oc on om op tr el cm := by
  have ix := bt_ix24 hi
  intro e
  induction e with
  | zero =>
    intro d n mn2 mc2 hd hn h1 h2
    obtain ⟨n, rfl⟩ : ∃ n', n = n' + 1 := ⟨n - 1, by omega⟩
    have ed : d = c - 1 - f := by omega
    subst ed
    refine ⟨ix.2.2.2.2.1, ?_⟩
    rw [ix.2.2.2.2.2.1, ec0, bt_s1 (by omega)]
    exact br_t (nI_le (by omega) (by omega)) ⟨ix.2.2.2.2.1, ix.2.2.2.2.1, nm_e (h mn2 mc2 h1 h2)⟩
  | succ e ih =>
    intro d n mn2 mc2 hd hn h1 h2
    obtain ⟨n, rfl⟩ : ∃ n', n = n' + 1 := ⟨n - 1, by omega⟩
    have iz := bt_ix120 (q := 5 * i + (f + d + 1)) (by omega)
    have e5 : nI i * 5 + nI (f + 1 + d) = nI (5 * i + (f + d + 1)) := by rw [bt_m5, nI_add]; exact congrArg nI (by omega)
    refine ⟨ix.2.2.2.2.1, ?_⟩
    rw [ix.2.2.2.2.2.1, ec0]
    refine br_f (nI_ge (by omega) (by omega)) (nm_r e5 ⟨iz.2.2.2.2.1, iz.2.2.2.2.1, ?_⟩)
    have es1 : nI (f + 1 + d) - 1 = nI (f + d) := by rw [bt_s1 (by omega)]; exact congrArg nI (by omega)
    rw [iz.2.2.2.2.2.1, es1]
    refine xx_put hi (by omega) (bt_sh_B h2 hB _) (nm_r (nI_1 _) ?_)
    exact ih (d + 1) n _ _ (by omega) (by omega) (bt_sh_s h1) (bt_sh_s h2)
theorem xu_take {post : SX → Prop} {i c f : Nat} (hi : i < 24) (hc : c ≤ 5) (fc0 : f < c) (ec0 : cc i = nI c) (hB : ∀ x, bt_B (mc x))
    (h : ∀ mn2 mc2 : Nat → Int32, bt_sh mn mn2 (5 * i) f (c - 1 - f) → bt_sh mc mc2 (5 * i) f (c - 1 - f) → post (ls, tl, ec, kc, st, dr, nm, pa, ve, sz, it, sm, hl, th, sp, tb, dl, dn, upd cc i (nI (c - 1)), cv, mn2, mc2, oc, on, om, op, tr, el, cm)) : wpX_takeMemberOut post (ls, tl, ec, kc, st, dr, nm, pa, ve, sz, it, sm, hl, th, sp, tb, dl, dn, cc, cv, mn, mc, oc, on, om, op, tr, el, cm) (nI i) (nI f) :=
  nm_r (nI_1 f) ⟨c + 1, xu_take_l hi hc fc0 ec0 hB h (c - 1 - f) 0 (c + 1) mn mc (by omega) (by omega) bt_sh_0 bt_sh_0⟩
/-- what Y does when the members are in place -/
theorem yu_176 {post : Int32 → SY → Prop} {j c1 f : Nat} (hj : j < 24) (hc : c1 ≤ 4) (hB : ∀ x, bt_B (cr x)) (em : ms j = nI c1)
    (h : ∀ me2 cr2 vc2 : Nat → Int32, bt_sh me me2 (5 * j) f (c1 - f) → bt_sh cr cr2 (5 * j) f (c1 - f) → (c1 = 0 → vc2 = upd vc j (-1)) → (¬ c1 = 0 → vc2 = vc) → wY_unmount_251 post (nI j) ls es tt se fr st nm pa ve sz sm it dr th sY tY dl dy dm vc2 ms me2 cr2 hd hN ps la ey tn tm sn sc fn fc) :
    ∀ (e d n : Nat) (me2 cr2 : Nat → Int32), e = c1 - (f + d) → (f + d ≤ c1 ∨ d = 0) → e < n → bt_sh me me2 (5 * j) f d → bt_sh cr cr2 (5 * j) f d → f ≤ 5 → wY_unmount_176 post (nI j) n (nI (f + d)) ls es tt se fr st nm pa ve sz sm it dr th sY tY dl dy dm vc ms me2 cr2 hd hN ps la ey tn tm sn sc fn fc := by
  have ix := bt_ix24 hj
  intro e
  induction e with
  | zero =>
    intro d n me2 cr2 he hfd hn h1 h2 f5
    obtain ⟨n, rfl⟩ : ∃ n', n = n' + 1 := ⟨n - 1, by omega⟩
    have ed : d = c1 - f := by omega
    refine ⟨ix.2.2.2.2.1, ?_⟩
    rw [ix.2.2.2.2.2.1, em]
    refine br_t (nI_le (by omega) (by omega)) ⟨ix.2.2.2.2.1, ek_if (bt_e0 (by omega)) (fun z => ⟨ix.2.2.2.2.1, nm_e (h me2 cr2 _ ?_ ?_ (fun _ => rfl) (fun y => absurd z y))⟩) (fun z => h me2 cr2 vc ?_ ?_ (fun y => absurd y z) (fun _ => rfl))⟩
    · rw [← ed]; exact h1
    · rw [← ed]; exact h2
    · rw [← ed]; exact h1
    · rw [← ed]; exact h2
  | succ e ih =>
    intro d n me2 cr2 he hfd hn h1 h2 f5
    obtain ⟨n, rfl⟩ : ∃ n', n = n' + 1 := ⟨n - 1, by omega⟩
    have iz := bt_ix120 (q := 5 * j + (f + d + 1)) (by omega)
    have e5 : 5 * nI j + nI (f + d) = nI (5 * j + (f + d)) := by rw [bt_5m, nI_add]
    have e6 : nI (5 * j + (f + d)) + 1 = nI (5 * j + (f + d + 1)) := nI_1 _
    refine ⟨ix.2.2.2.2.1, ?_⟩
    rw [ix.2.2.2.2.2.1, em, e5, e6, iz.2.2.2.2.2.1]
    refine br_f (nI_ge (by omega) (by omega)) ⟨iz.2.2.2.2.1, iz.2.2.2.2.1, yy_put (by omega) (bt_sh_B h2 hB _) (nm_r (nI_1 _) ?_)⟩
    exact ih (d + 1) n _ _ (by omega) (by omega) (by omega) (bt_sh_s h1) (bt_sh_s h2) f5
/-- a member is out -/
theorem bt_um {p k c f : Nat} (R : bt_R st dr nm pa sz th dl sp tb dn cc cv mn mc oc on om op sY tY dy dm vc ms me cr hd hN ps la s s' t t') (hp : p < 4) (hk : k < 6) (tp : th p ≠ 0) (fc0 : f < c) (c5 : c ≤ 5)
    (cvs : cv (6 * s p + k) = vc (6 * s' p + k)) (Ncv : bt_N st (cv (6 * s p + k))) (w5 : ∀ m, m < c → mn (5 * (6 * s p + k) + m) = me (5 * (6 * s' p + k) + m) ∧ mc (5 * (6 * s p + k) + m) = cr (5 * (6 * s' p + k) + m) ∧ bt_N st (mn (5 * (6 * s p + k) + m)))
    (x1 : bt_sh mn mn2 (5 * (6 * s p + k)) f (c - 1 - f)) (x2 : bt_sh mc mc2 (5 * (6 * s p + k)) f (c - 1 - f)) (y1 : bt_sh me me2 (5 * (6 * s' p + k)) f (c - 1 - f)) (y2 : bt_sh cr cr2 (5 * (6 * s' p + k)) f (c - 1 - f))
    (z0 : c - 1 = 0 → vc2 = upd vc (6 * s' p + k) (-1)) (z1 : ¬ c - 1 = 0 → vc2 = vc) :
    bt_R st dr nm pa sz th dl sp tb dn (upd cc (6 * s p + k) (nI (c - 1))) cv mn2 mc2 oc on om op sY tY dy dm vc2 (upd ms (6 * s' p + k) (nI (c - 1))) me2 cr2 hd hN ps la s s' t t' := by
  have vo : ∀ x, x ≠ 6 * s' p + k → vc2 x = vc x := by
    intro x hx
    by_cases z : c - 1 = 0
    · rw [z0 z, pk_un hx]
    · rw [z1 z]
  refine bt_upC (p := p) (k := k) R hp hk tp (fun x hx => ⟨pk_un hx, rfl⟩) (fun x hx => ⟨x1.2 x (by omega), x2.2 x (by omega)⟩) (fun x hx => ⟨vo x hx, pk_un hx⟩) (fun x hx => ⟨y1.2 x (by omega), y2.2 x (by omega)⟩) (bt_sh_B x2 R.2.1) (bt_sh_B y2 R.2.2.1) ?_
  by_cases z : c - 1 = 0
  · refine Or.inl ⟨?_, ?_⟩
    · rw [pk_us, z]; rfl
    · rw [z0 z, pk_us]
  · refine Or.inr ⟨c - 1, by omega, by omega, pk_us, pk_us, ?_, Ncv, fun m hm => ?_⟩
    · rw [z1 z]; exact cvs
    · by_cases w : m < f
      · rw [x1.2 _ (by omega), x2.2 _ (by omega), y1.2 _ (by omega), y2.2 _ (by omega)]; exact w5 m (by omega)
      · rw [x1.1 m (by omega) (by omega), x2.1 m (by omega) (by omega), y1.1 m (by omega) (by omega), y2.1 m (by omega) (by omega)]; exact w5 (m + 1) (by omega)
/-- Y seeks the member -/
theorem yu_94 {post : Int32 → SY → Prop} {j c : Nat} {x2 x4 : Int32} {P : Nat → Prop} [DecidablePred P] (hj : j < 24) (c5 : c ≤ 5) (em : ms j = nI c) (hP : ∀ m, m < c → (me (5 * j + m) = x4 ↔ P m)) :
    ∀ (e q n : Nat), q + e = c → e < n → (∀ f, bt_f P q e = some f → wY_unmount_129 post x2 (nI j) (nI f) ls es tt se fr st nm pa ve sz sm it dr th sY tY dl dy dm vc ms me cr hd hN ps la ey tn tm sn sc fn fc) → (bt_f P q e = none → wY_unmount_129 post x2 (nI j) (nI c) ls es tt se fr st nm pa ve sz sm it dr th sY tY dl dy dm vc ms me cr hd hN ps la ey tn tm sn sc fn fc) → wY_unmount_94 post x2 x4 (nI j) ls es tt se fr st nm pa ve sz sm it dr th sY tY dl dy dm vc ms me cr hd hN ps la ey tn tm sn sc fn fc n (nI q) := by
  have ix := bt_ix24 hj
  intro e
  induction e with
  | zero =>
    intro q n hq hn h1 h2
    obtain ⟨n, rfl⟩ : ∃ n', n = n' + 1 := ⟨n - 1, by omega⟩
    have : q = c := by omega
    subst this
    refine ⟨ix.2.2.2.2.1, br_t ?_ (h2 rfl)⟩
    rw [ix.2.2.2.2.2.1, em]; exact Int32.le_refl _
  | succ e ih =>
    intro q n hq hn h1 h2
    obtain ⟨n, rfl⟩ : ∃ n', n = n' + 1 := ⟨n - 1, by omega⟩
    have iz := bt_ix120 (q := 5 * j + q) (by omega)
    have e5 : 5 * nI j + nI q = nI (5 * j + q) := by rw [bt_5m, nI_add]
    simp only [bt_f] at h1 h2
    refine ⟨ix.2.2.2.2.1, ?_⟩
    rw [ix.2.2.2.2.2.1, em, e5, iz.2.2.2.2.2.1]
    refine br_f (nI_ge (by omega) (by omega)) ⟨iz.2.2.2.2.1, ek_if (hP q (by omega)) (fun z => h1 q (if_pos z)) (fun z => nm_r (nI_1 _) ?_)⟩
    rw [if_neg z] at h1 h2
    exact ih (q + 1) n (by omega) (by omega) h1 h2
end
theorem i_vc_unmount {k : Nat} {u : SX} {v : SY} (I : i_Rel k u v) (hk : k + 6 ≤ 3072) (v1 : Int32) (v2 : Int32) (v3 : Int32) : wpX_unmount (fun r u' => wpY_unmount (fun r' v' => r' = r ∧ i_Rel (k + 6) u' v') v v1 v2 v3) u v1 v2 v3 := by
  obtain ⟨ls, tl, ec, kc, es, tt, se, fr, st, dr, nm, pa, ve, sz, it, sm, hl, th, sp, tb, dl, dn, cc, cv, mn, mc, oc, on, om, op, tr, el, cm, sY, tY, dy, dm, vc, ms, me, cr, hd, hN, ps, la, ey, tn, tm, sn, sc, fn, fc, s, s', t, t', rfl, rfl, R⟩ := I
  obtain ⟨m, D, rx, dx⟩ := bt_xd v2
  obtain ⟨m', D', rx', dx'⟩ := bt_xd v3
  have J := R
  obtain ⟨RA, B1, B2, RS, RT, RP⟩ := J
  unfold wpX_unmount
  by_cases hp0 : (∃ q, q < 4 ∧ v1 = nI q ∧ th q ≠ 0) ∧ bt_g m' D'
  · obtain ⟨⟨p, hp, rfl, tp⟩, gx'⟩ := hp0
    have ip := bt_ix4 hp
    obtain ⟨hT, hC, hD⟩ := RP p hp tp
    obtain ⟨sa, ha, sb, hb4⟩ := RS.1 p hp
    by_cases all : v2 = 1073741824
    · -- all members
      obtain ⟨r, L', tr', el2, an, hT2, fX, fY⟩ := ev_R (ls := ls) (tl := tl) (ec := ec) (kc := kc) (st := st) (dr := dr) (nm := nm) (pa := pa) (ve := ve) (sz := sz) (it := it) (sm := sm) (hl := hl) (th := th) (sp := sp) (tb := tb) (dl := dl) (dn := dn) (cc := cc) (cv := cv) (mn := mn) (mc := mc) (oc := oc) (on := on) (om := om) (op := op) (tr := tr) (el := el) (cm := cm) R hp tp rx' dx' gx'
      have toY : ∀ post : Int32 → SY → Prop, (∀ (es2 se2 : Int32) (ey2 tn2 tm2 sn2 sc2 : Nat → Int32), ((0 ≤ r → (vp_in (nI p) 4 ∧ (wpY_coverOf (fun r_112 => ((0 ≤ r_112 → ∃ n94, wY_unmount_94 post v2 0 r_112 ls es2 (nI L') se2 fr st nm pa ve sz sm it dr th sY tY dl dy dm vc ms me cr hd hN ps la ey2 tn2 tm2 sn2 sc2 fn fc n94 0) ∧ (¬ 0 ≤ r_112 → post (-10) (ls, es2, nI L', se2, fr, st, nm, pa, ve, sz, sm, it, dr, th, sY, tY, dl, dy, dm, vc, ms, me, cr, hd, hN, ps, la, ey2, tn2, tm2, sn2, sc2, fn, fc)))) (ls, es2, nI L', se2, fr, st, nm, pa, ve, sz, sm, it, dr, th, sY, tY, dl, dy, dm, vc, ms, me, cr, hd, hN, ps, la, ey2, tn2, tm2, sn2, sc2, fn, fc) (nI (s' p)) r))) ∧ (¬ 0 ≤ r → post r (ls, es2, nI L', se2, fr, st, nm, pa, ve, sz, sm, it, dr, th, sY, tY, dl, dy, dm, vc, ms, me, cr, hd, hN, ps, la, ey2, tn2, tm2, sn2, sc2, fn, fc)))) → wpY_unmount post (ls, es, tt, se, fr, st, nm, pa, ve, sz, sm, it, dr, th, sY, tY, dl, dy, dm, vc, ms, me, cr, hd, hN, ps, la, ey, tn, tm, sn, sc, fn, fc) (nI p) v2 v3 := by
        intro post h
        unfold wpY_unmount
        refine yy_isPath1 hp tp rx' dx' gx' (fun ey2 _ => br_f (by decide) (br_t all (br_t all (br_t (by decide) (fY _ _ _ _ _ _ _ _ _ _ _ _ (fun es2 se2 ey3 tn2 tm2 sn2 sc2 ht => ?_))))))
        have hh := h es2 se2 ey3 tn2 tm2 sn2 sc2
        have eb : sY (nI p).toNatClampNeg = nI (s' p) := by rw [ip.2.2.2.2.2.1]; exact sb
        rw [← eb] at hh
        exact hh
      refine br_t all ?_
      unfold wX_unmount_11
      refine xx_isP1 hp tp (br_f (by decide) (xx_path rx' dx' (fun _ => br_f (by decide) (br_f (by decide) (br_f (by decide) (br_f (by decide) ?_)))) (fun z => absurd gx' z)))
      unfold wX_unmount_72
      refine fX _ ?_
      rcases bt_an2 an with ng | ⟨n, hn, rfl, zn, _⟩
      · exact br_f ng (toY _ (fun es2 se2 ey2 tn2 tm2 sn2 sc2 => br_f ng ⟨rfl, bt_mkR R⟩))
      · have i0 : (0 : Int32) ≤ nI n := nI_pos' (by omega)
        have Nn : bt_N st (nI n) := ⟨n, hn, rfl, zn⟩
        obtain ⟨c, c1, c5, hv, hNs, hv0, hS⟩ := bt_view hC Nn
        refine br_t i0 ⟨ip.2.2.2.2.1, ?_⟩
        rw [ip.2.2.2.2.2.1, sa]
        refine xx_coverOf ha (bt_Cc hC) ?_
        cases oo : bt_cf cc cv (s p) (nI n) with
        | none =>
          refine br_t rfl (toY _ (fun es2 se2 ey2 tn2 tm2 sn2 sc2 => br_t i0 ⟨ip.2.2.2.2.1, yy_coverOf hb4 hC (bt_Nx Nn) ?_⟩))
          rw [oo]
          exact br_f (show ¬ (0 : Int32) ≤ -1 by decide) ⟨rfl, bt_mkR R⟩
        | some k6 =>
          obtain ⟨k6l, w1, w2, w3, w4, w5⟩ := hS k6 oo
          have jk := bt_ix24 (q := 6 * s p + k6) (by omega)
          have jk' := bt_ix24 (q := 6 * s' p + k6) (by omega)
          have R' : bt_R st dr nm pa sz th dl sp tb dn (upd cc (6 * s p + k6) 0) cv mn mc oc on om op sY tY dy dm (upd vc (6 * s' p + k6) (-1)) (upd ms (6 * s' p + k6) 0) me cr hd hN ps la s s' t t' :=
            bt_upC (p := p) (k := k6) R hp k6l tp (fun x hx => ⟨pk_un hx, rfl⟩) (fun _ _ => ⟨rfl, rfl⟩) (fun x hx => ⟨pk_un hx, pk_un hx⟩) (fun _ _ => ⟨rfl, rfl⟩) B1 B2 (Or.inl ⟨pk_us, pk_us⟩)
          refine br_f jk.2.2.2.2.2.2 (br_f (by decide) ⟨jk.2.2.2.2.1, nm_r (show _ = upd cc (6 * s p + k6) 0 from congrArg (fun z => upd cc z 0) jk.2.2.2.2.2.1) ?_⟩)
          unfold wX_unmount_154
          refine xx_sw (bt_wf_R R') (fun st2 hl2 sw => ⟨jk.2.2.2.2.1, ?_⟩)
          show wpY_unmount (fun r' v' => r' = upd cc (6 * s p + k6) 0 (nI (6 * s p + k6)).toNatClampNeg ∧ i_Rel (k + 6) (ls, nI L', nI D', kc, st2, dr, nm, pa, ve, sz, it, sm, hl2, th, sp, tb, dl, dn, upd cc (6 * s p + k6) 0, cv, mn, mc, oc, on, om, op, tr', el2, cm) v') (ls, es, tt, se, fr, st, nm, pa, ve, sz, sm, it, dr, th, sY, tY, dl, dy, dm, vc, ms, me, cr, hd, hN, ps, la, ey, tn, tm, sn, sc, fn, fc) (nI p) v2 v3
          rw [jk.2.2.2.2.2.1, pk_us]
          have fin : ∀ (q : Nat) (es2 se2 : Int32) (ey2 tn2 tm2 sn2 sc2 : Nat → Int32), q ≤ 5 → wY_unmount_129 (fun r' v' => r' = 0 ∧ i_Rel (k + 6) (ls, nI L', nI D', kc, st2, dr, nm, pa, ve, sz, it, sm, hl2, th, sp, tb, dl, dn, upd cc (6 * s p + k6) 0, cv, mn, mc, oc, on, om, op, tr', el2, cm) v') v2 (nI (6 * s' p + k6)) (nI q) ls es2 (nI L') se2 fr st nm pa ve sz sm it dr th sY tY dl dy dm vc ms me cr hd hN ps la ey2 tn2 tm2 sn2 sc2 fn fc := by
            intro q es2 se2 ey2 tn2 tm2 sn2 sc2 q5
            refine br_t all (br_t all ⟨jk'.2.2.2.2.1, nm_r (show _ = upd ms (6 * s' p + k6) (nI 0) from congrArg (fun z => upd ms z 0) jk'.2.2.2.2.2.1) ⟨1, ?_⟩⟩)
            refine yu_176 (c1 := 0) (f := q) (by omega) (by omega) B2 pk_us (fun me2 cr2 vc2 a1 a2 a3 a4 => ?_) 0 0 1 me cr (by omega) (Or.inr rfl) (by omega) bt_sh_0 bt_sh_0 q5
            have e1 : me2 = me := funext fun x => a1.2 x (by omega)
            have e2 : cr2 = cr := funext fun x => a2.2 x (by omega)
            have e3 := a3 rfl
            subst e1 e2 e3
            unfold wY_unmount_251
            refine yy_sw R' (fun st3 sw3 => ⟨jk'.2.2.2.2.1, ?_⟩)
            have := bt_sw_u sw3 sw
            subst this
            refine ⟨?_, bt_mkR (bt_upSw R' sw)⟩
            rw [jk'.2.2.2.2.2.1, pk_us]; rfl
          refine toY _ (fun es2 se2 ey2 tn2 tm2 sn2 sc2 => br_t i0 ⟨ip.2.2.2.2.1, yy_coverOf hb4 hC (bt_Nx Nn) ?_⟩)
          rw [oo]
          refine br_t jk'.2.1 ⟨c + 1, yu_94 (P := fun m => me (5 * (6 * s' p + k6) + m) = 0) (by omega) c5 w2 (fun m _ => Iff.rfl) c 0 (c + 1) (by omega) (by omega) (fun f hf => fin f _ _ _ _ _ _ _ ?_) (fun _ => fin c _ _ _ _ _ _ _ c5)⟩
          have := bt_f_s c 0 hf
          omega
    · -- one member
      by_cases gx : bt_g m D
      · obtain ⟨r, L', tr', el2, an, hT2, fX, fY⟩ := ev_R (ls := ls) (tl := tl) (ec := ec) (kc := kc) (st := st) (dr := dr) (nm := nm) (pa := pa) (ve := ve) (sz := sz) (it := it) (sm := sm) (hl := hl) (th := th) (sp := sp) (tb := tb) (dl := dl) (dn := dn) (cc := cc) (cv := cv) (mn := mn) (mc := mc) (oc := oc) (on := on) (om := om) (op := op) (tr := tr) (el := el) (cm := cm) R hp tp rx dx gx
        obtain ⟨r', L2, tr2, el3, an', hT2', fX', fY'⟩ := ev_R (ls := ls) (tl := nI L') (ec := nI D) (kc := kc) (st := st) (dr := dr) (nm := nm) (pa := pa) (ve := ve) (sz := sz) (it := it) (sm := sm) (hl := hl) (th := th) (sp := sp) (tb := tb) (dl := dl) (dn := dn) (cc := cc) (cv := cv) (mn := mn) (mc := mc) (oc := oc) (on := on) (om := om) (op := op) (tr := tr') (el := el2) (cm := cm) R hp tp rx' dx' gx'
        have toY : ∀ post : Int32 → SY → Prop, (¬ 0 ≤ r → ∀ (es2 se2 : Int32) (ey2 tn2 tm2 sn2 sc2 : Nat → Int32), post r (ls, es2, nI L', se2, fr, st, nm, pa, ve, sz, sm, it, dr, th, sY, tY, dl, dy, dm, vc, ms, me, cr, hd, hN, ps, la, ey2, tn2, tm2, sn2, sc2, fn, fc)) → (0 ≤ r → ∀ (es2 se2 : Int32) (ey2 tn2 tm2 sn2 sc2 : Nat → Int32), ((0 ≤ r' → (vp_in (nI p) 4 ∧ (wpY_coverOf (fun r_112 => ((0 ≤ r_112 → ∃ n94, wY_unmount_94 post v2 r r_112 ls es2 (nI L2) se2 fr st nm pa ve sz sm it dr th sY tY dl dy dm vc ms me cr hd hN ps la ey2 tn2 tm2 sn2 sc2 fn fc n94 0) ∧ (¬ 0 ≤ r_112 → post (-10) (ls, es2, nI L2, se2, fr, st, nm, pa, ve, sz, sm, it, dr, th, sY, tY, dl, dy, dm, vc, ms, me, cr, hd, hN, ps, la, ey2, tn2, tm2, sn2, sc2, fn, fc)))) (ls, es2, nI L2, se2, fr, st, nm, pa, ve, sz, sm, it, dr, th, sY, tY, dl, dy, dm, vc, ms, me, cr, hd, hN, ps, la, ey2, tn2, tm2, sn2, sc2, fn, fc) (nI (s' p)) r'))) ∧ (¬ 0 ≤ r' → post r' (ls, es2, nI L2, se2, fr, st, nm, pa, ve, sz, sm, it, dr, th, sY, tY, dl, dy, dm, vc, ms, me, cr, hd, hN, ps, la, ey2, tn2, tm2, sn2, sc2, fn, fc)))) → wpY_unmount post (ls, es, tt, se, fr, st, nm, pa, ve, sz, sm, it, dr, th, sY, tY, dl, dy, dm, vc, ms, me, cr, hd, hN, ps, la, ey, tn, tm, sn, sc, fn, fc) (nI p) v2 v3 := by
          intro post hng h
          unfold wpY_unmount
          refine yy_isPath1 hp tp rx' dx' gx' (fun ey2 _ => br_f (by decide) (br_f all (yy_split rx dx (fun _ ey3 _ => br_f (by decide) (br_f all (fY _ _ _ _ _ _ _ _ _ _ _ _ (fun es2 se2 ey4 tn2 tm2 sn2 sc2 ht => br_c (fun z => fY' _ _ _ _ _ _ _ _ _ _ _ _ (fun es3 se3 ey5 tn3 tm3 sn3 sc3 ht' => ?_)) (fun z => hng z _ _ _ _ _ _ _))))) (fun z => absurd gx z))))
          have hh := h z es3 se3 ey5 tn3 tm3 sn3 sc3
          have eb : sY (nI p).toNatClampNeg = nI (s' p) := by rw [ip.2.2.2.2.2.1]; exact sb
          rw [← eb] at hh
          exact hh
        refine br_f all ?_
        unfold wX_unmount_11
        refine xx_isP1 hp tp (br_f (by decide) (xx_path rx' dx' (fun _ => br_f (by decide) (br_t rfl (xx_path rx dx (fun _ => br_f (by decide) (br_t rfl (fX _ (br_t rfl ?_)))) (fun z => absurd gx z)))) (fun z => absurd gx' z)))
        rcases bt_an2 an with ng | ⟨nf, hnf, rfl, znf, _⟩
        · exact br_f ng (toY _ (fun _ es2 se2 ey2 tn2 tm2 sn2 sc2 => ⟨rfl, bt_mkR R⟩) (fun z => absurd z ng))
        · have j0 : (0 : Int32) ≤ nI nf := nI_pos' (by omega)
          refine br_t j0 ?_
          unfold wX_unmount_72
          refine fX' _ ?_
          rcases bt_an2 an' with ng | ⟨n, hn, rfl, zn, _⟩
          · exact br_f ng (toY _ (fun z => absurd j0 z) (fun _ es2 se2 ey2 tn2 tm2 sn2 sc2 => br_f ng ⟨rfl, bt_mkR R⟩))
          · have i0 : (0 : Int32) ≤ nI n := nI_pos' (by omega)
            have Nn : bt_N st (nI n) := ⟨n, hn, rfl, zn⟩
            obtain ⟨c, c1, c5, hv, hNs, hv0, hS⟩ := bt_view hC Nn
            refine br_t i0 ⟨ip.2.2.2.2.1, ?_⟩
            rw [ip.2.2.2.2.2.1, sa]
            refine xx_coverOf ha (bt_Cc hC) ?_
            cases oo : bt_cf cc cv (s p) (nI n) with
            | none =>
              refine br_t rfl (toY _ (fun z => absurd j0 z) (fun _ es2 se2 ey2 tn2 tm2 sn2 sc2 => br_t i0 ⟨ip.2.2.2.2.1, yy_coverOf hb4 hC (bt_Nx Nn) ?_⟩))
              rw [oo]
              exact br_f (show ¬ (0 : Int32) ≤ -1 by decide) ⟨rfl, bt_mkR R⟩
            | some k6 =>
              obtain ⟨k6l, w1, w2, w3, w4, w5⟩ := hS k6 oo
              have jk := bt_ix24 (q := 6 * s p + k6) (by omega)
              have jk' := bt_ix24 (q := 6 * s' p + k6) (by omega)
              refine br_f jk.2.2.2.2.2.2 (br_t rfl (xx_mix (by omega) c5 w1 ?_))
              have toY2 : ∀ post : Int32 → SY → Prop, (∀ (es2 se2 : Int32) (ey2 tn2 tm2 sn2 sc2 : Nat → Int32), (∀ f, bt_f (fun m => mn (5 * (6 * s p + k6) + m) = nI nf) 0 c = some f → wY_unmount_129 post v2 (nI (6 * s' p + k6)) (nI f) ls es2 (nI L2) se2 fr st nm pa ve sz sm it dr th sY tY dl dy dm vc ms me cr hd hN ps la ey2 tn2 tm2 sn2 sc2 fn fc) ∧ (bt_f (fun m => mn (5 * (6 * s p + k6) + m) = nI nf) 0 c = none → wY_unmount_129 post v2 (nI (6 * s' p + k6)) (nI c) ls es2 (nI L2) se2 fr st nm pa ve sz sm it dr th sY tY dl dy dm vc ms me cr hd hN ps la ey2 tn2 tm2 sn2 sc2 fn fc)) → wpY_unmount post (ls, es, tt, se, fr, st, nm, pa, ve, sz, sm, it, dr, th, sY, tY, dl, dy, dm, vc, ms, me, cr, hd, hN, ps, la, ey, tn, tm, sn, sc, fn, fc) (nI p) v2 v3 := by
                intro post h
                refine toY _ (fun z => absurd j0 z) (fun _ es2 se2 ey2 tn2 tm2 sn2 sc2 => br_t i0 ⟨ip.2.2.2.2.1, yy_coverOf hb4 hC (bt_Nx Nn) ?_⟩)
                rw [oo]
                exact br_t jk'.2.1 ⟨c + 1, yu_94 (by omega) c5 w2 (fun m hm => by rw [(w5 m hm).1]) c 0 (c + 1) (by omega) (by omega) (h _ _ _ _ _ _ _).1 (h _ _ _ _ _ _ _).2⟩
              cases mf : bt_f (fun m => mn (5 * (6 * s p + k6) + m) = nI nf) 0 c with
              | none =>
                rw [mf] at toY2
                refine br_t rfl (toY2 _ (fun es2 se2 ey2 tn2 tm2 sn2 sc2 => ⟨fun f hf => (by cases hf), fun _ => br_f all ⟨jk'.2.2.2.2.1, br_t ?_ ⟨rfl, bt_mkR R⟩⟩⟩))
                rw [jk'.2.2.2.2.2.1, w2]
              | some f =>
                obtain ⟨_, fc0, _, _⟩ := bt_f_s c 0 mf
                have fc1 : f < c := by omega
                have jf := bt_ix5 (q := f) (by omega)
                rw [mf] at toY2
                refine br_f jf.2.2.2.2.2.2 (xu_take (by omega) c5 fc1 w1 B1 (fun mn2 mc2 x1 x2 => ?_))
                unfold wX_unmount_154
                have Ncv : bt_N st (cv (6 * s p + k6)) := by rw [w3]; exact Nn
                have wfX : bt_wf th dl sp tb dn (upd cc (6 * s p + k6) (nI (c - 1))) cv mn2 oc on s t := by
                  refine bt_wf_C (p := p) (k := k6) (bt_wf_R R) k6l (fun x hx => ⟨pk_un hx, rfl⟩) (fun x hx => x1.2 x (by omega)) ?_
                  by_cases z : c - 1 = 0
                  · exact Or.inl (by rw [pk_us, z]; rfl)
                  · refine Or.inr ⟨c - 1, by omega, by omega, pk_us, ⟨n, hn, w3⟩, fun m hm => ?_⟩
                    by_cases w : m < f
                    · rw [x1.2 _ (by omega)]
                      obtain ⟨_, _, n2, h1, h2, _⟩ := w5 m (by omega)
                      exact ⟨n2, h1, h2⟩
                    · rw [x1.1 m (by omega) (by omega)]
                      obtain ⟨_, _, n2, h1, h2, _⟩ := w5 (m + 1) (by omega)
                      exact ⟨n2, h1, h2⟩
                refine xx_sw wfX (fun st2 hl2 sw => ⟨jk.2.2.2.2.1, ?_⟩)
                show wpY_unmount (fun r' v' => r' = upd cc (6 * s p + k6) (nI (c - 1)) (nI (6 * s p + k6)).toNatClampNeg ∧ i_Rel (k + 6) (ls, nI L2, nI D', kc, st2, dr, nm, pa, ve, sz, it, sm, hl2, th, sp, tb, dl, dn, upd cc (6 * s p + k6) (nI (c - 1)), cv, mn2, mc2, oc, on, om, op, tr2, el3, cm) v') (ls, es, tt, se, fr, st, nm, pa, ve, sz, sm, it, dr, th, sY, tY, dl, dy, dm, vc, ms, me, cr, hd, hN, ps, la, ey, tn, tm, sn, sc, fn, fc) (nI p) v2 v3
                rw [jk.2.2.2.2.2.1, pk_us]
                refine toY2 _ (fun es2 se2 ey2 tn2 tm2 sn2 sc2 => ⟨fun f' hf' => ?_, fun z => (by cases z)⟩)
                have ef : f' = f := by cases hf'; rfl
                subst ef
                refine br_f all ⟨jk'.2.2.2.2.1, br_f ?_ (br_f all ⟨jk'.2.2.2.2.1, jk'.2.2.2.2.1, nm_r (show _ = upd ms (6 * s' p + k6) (nI (c - 1)) from ?_) ⟨c + 1, ?_⟩⟩)⟩
                · rw [jk'.2.2.2.2.2.1, w2]
                  exact fun z => by have := bt_inj (by omega) (by omega) z; omega
                · rw [jk'.2.2.2.2.2.1, w2, bt_s1 (by omega)]
                · refine yu_176 (c1 := c - 1) (f := f') (by omega) (by omega) B2 pk_us (fun me2 cr2 vc2 y1 y2 z0 z1 => ?_) (c - 1 - f') 0 (c + 1) me cr (by omega) (Or.inr rfl) (by omega) bt_sh_0 bt_sh_0 (by omega)
                  have R' := bt_um (k := k6) R hp k6l tp fc1 c5 (w3.trans w4.symm) Ncv w5 x1 x2 y1 y2 z0 z1
                  unfold wY_unmount_251
                  refine yy_sw R' (fun st3 sw3 => ⟨jk'.2.2.2.2.1, ?_⟩)
                  have := bt_sw_u sw3 sw
                  subst this
                  refine ⟨?_, bt_mkR (bt_upSw R' sw)⟩
                  rw [jk'.2.2.2.2.2.1, pk_us]
      · refine br_f all ?_
        unfold wX_unmount_11
        refine xx_isP1 hp tp (br_f (by decide) (xx_path rx' dx' (fun _ => br_f (by decide) (br_t rfl (xx_path rx dx (fun z => absurd z gx) (fun _ => br_t rfl ?_)))) (fun z => absurd gx' z)))
        unfold wpY_unmount
        exact yy_isPath1 hp tp rx' dx' gx' (fun ey2 _ => br_f (by decide) (br_f all (yy_split rx dx (fun z => absurd z gx) (fun _ ey3 => br_t rfl ⟨rfl, bt_mkR R⟩))))
  · have Yr : wpY_unmount (fun r' v' => r' = -1 ∧ i_Rel (k + 6) (ls, tl, ec, kc, st, dr, nm, pa, ve, sz, it, sm, hl, th, sp, tb, dl, dn, cc, cv, mn, mc, oc, on, om, op, tr, el, cm) v') (ls, es, tt, se, fr, st, nm, pa, ve, sz, sm, it, dr, th, sY, tY, dl, dy, dm, vc, ms, me, cr, hd, hN, ps, la, ey, tn, tm, sn, sc, fn, fc) v1 v2 v3 := by
      unfold wpY_unmount
      exact yy_isPath0 rx' dx' hp0 (fun es2 ey2 => br_t rfl ⟨rfl, bt_mkR R⟩)
    have X11 : ∀ z0 : Int32, wX_unmount_11 (fun r u' => wpY_unmount (fun r' v' => r' = r ∧ i_Rel (k + 6) u' v') (ls, es, tt, se, fr, st, nm, pa, ve, sz, sm, it, dr, th, sY, tY, dl, dy, dm, vc, ms, me, cr, hd, hN, ps, la, ey, tn, tm, sn, sc, fn, fc) v1 v2 v3) v1 v2 v3 z0 ls tl ec kc st dr nm pa ve sz it sm hl th sp tb dl dn cc cv mn mc oc on om op tr el cm := by
      intro z0
      unfold wX_unmount_11
      by_cases hp1 : ∃ q, q < 4 ∧ v1 = nI q ∧ th q ≠ 0
      · obtain ⟨p, hp, rfl, tp⟩ := hp1
        exact xx_isP1 hp tp (br_f (by decide) (xx_path rx' dx' (fun g => absurd ⟨⟨p, hp, rfl, tp⟩, g⟩ hp0) (fun _ => br_t rfl Yr)))
      · exact xx_isP0 hp1 (br_t rfl Yr)
    exact br_c (fun _ => X11 1) (fun _ => X11 0)
