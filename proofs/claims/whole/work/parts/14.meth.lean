section
variable {ls tl ec kc : Int32} {st dr nm pa ve sz it sm hl th sp tb dl dn cc cv mn mc oc on om op tr el cm : Nat → Int32} {es tt se fr : Int32} {sY tY dy dm vc ms me cr hd hN ps la ey tn tm sn sc fn fc : Nat → Int32} {s s' t t' : Nat → Nat}
theorem yy_init24 {post : SY → Prop} (h : ∀ vc2 : Nat → Int32, (∀ j, j < 24 → vc2 j = -1) → post (ls, es, tt, se, fr, st, nm, pa, ve, sz, sm, it, dr, (upd th 0 (vp_nar .boolean 1)), sY, tY, (upd dl 0 1), dy, dm, vc2, ms, me, cr, hd, hN, ps, la, ey, tn, tm, sn, sc, fn, fc)) :
    ∀ (e i n : Nat) (vc : Nat → Int32), i + e = 24 → e < n → (∀ j, j < i → vc j = -1) → wY_init_267 post ls es tt se fr n (nI i) st nm pa ve sz sm it dr th sY tY dl dy dm vc ms me cr hd hN ps la ey tn tm sn sc fn fc := by
  intro e
  induction e with
  | zero =>
    intro i n vc hi hn hj
    obtain ⟨n, rfl⟩ : ∃ n', n = n' + 1 := ⟨n - 1, by omega⟩
    have : i = 24 := by omega
    subst this
    exact br_t (by decide) (nm_e (nm_e (h vc hj)))
  | succ e ih =>
    intro i n vc hi hn hj
    obtain ⟨n, rfl⟩ : ∃ n', n = n' + 1 := ⟨n - 1, by omega⟩
    have ix := bt_ix24 (q := i) (by omega)
    refine br_f ix.2.2.2.1 ⟨ix.2.2.2.2.1, ?_⟩
    rw [ix.2.2.2.2.2.1]
    refine nm_e (nm_r (nI_1 _) (ih (i + 1) n _ (by omega) (by omega) (fun j h => ?_)))
    by_cases w : j = i
    · rw [w, pk_us]
    · rw [pk_un w]; exact hj j (by omega)
end
theorem bt_R0 {vc : Nat → Int32} (hv : ∀ j, j < 24 → vc j = -1) :
    bt_R (upd (upd (upd (fun _ => 0) 0 1) 1 1) 2 1) (upd (upd (upd (fun _ => 0) 0 (vp_nar .boolean 1)) 1 (vp_nar .boolean 1)) 2 (vp_nar .boolean 1)) (fun _ => 0) (upd (upd (upd (fun _ => 0) 0 (-1)) 1 (-1)) 2 (-1)) (fun _ => 0) (upd (fun _ => 0) 0 (vp_nar .boolean 1)) (upd (fun _ => 0) 0 1) (fun _ => 0) (fun _ => 0) (fun _ => 0) (fun _ => 0) (fun _ => 0) (fun _ => 0) (fun _ => 0) (fun _ => 0) (fun _ => 0) (fun _ => 0) (fun _ => 0) (fun _ => 0) (fun _ => 0) (fun _ => 0) (fun _ => 0) vc (fun _ => 0) (fun _ => 0) (fun _ => 0) (fun _ => 0) (fun _ => 0) (fun _ => 0) (fun _ => 0) (fun _ => 0) (fun _ => 0) (fun _ => 0) (fun _ => 0) := by
  have hb : bt_B (vp_nar .boolean 1) := by rw [bt_n1]; exact bt_B1
  refine ⟨⟨bt_Bu (bt_Bu (bt_Bu (fun _ => bt_B0) hb) hb) hb, fun n hn => ?_, fun n hn => ⟨fun h3 h1 => ?_, fun _ => ⟨0, by omega, rfl⟩, fun _ => rfl⟩⟩, fun _ => bt_B0, fun _ => bt_B0,
    ⟨fun p hp => ⟨rfl, show 0 < 4 by omega, rfl, show 0 < 4 by omega⟩, fun p q _ _ _ _ => Iff.rfl⟩, ⟨fun p hp => ⟨rfl, show 0 < 4 by omega, rfl, show 0 < 4 by omega⟩, fun p q _ _ _ _ => Iff.rfl⟩, fun p hp tp => ?_⟩
  · have : n = 0 ∨ n = 1 ∨ n = 2 := by omega
    rcases this with rfl | rfl | rfl <;> decide
  · rw [pk_un (by omega), pk_un (by omega), pk_un (by omega)] at h1
    exact absurd rfl h1
  · by_cases e : p = 0
    · subst e
      refine ⟨⟨1, by omega, by omega, rfl, rfl, fun i hi => ⟨rfl, 0, by omega, rfl, by decide, fun h => by omega⟩⟩, fun k hk => Or.inl ⟨rfl, hv _ (show 6 * 0 + k < 24 by omega)⟩, fun k hk => ⟨0, by omega, rfl, rfl, fun m hm => by omega, fun h => by omega⟩⟩
    · rw [pk_un e] at tp
      exact absurd rfl tp
theorem bt_v48 {q : Nat} (h : q < 48) : vp_in (nI q) 48 := vp_in_nI h (by decide)
theorem i_vc0 : wpX_init (fun u => wpY_init (fun v => i_Rel 0 u v)) := by
  refine ⟨4, br_f (by decide) ⟨bt_v48 (q := 0) (by omega), nm_e ⟨bt_v48 (q := 0) (by omega), nm_e ⟨bt_v48 (q := 0) (by omega), nm_e (nm_r (nI_1 0) ?_)⟩⟩⟩⟩
  refine br_f (by decide) ⟨bt_v48 (q := 1) (by omega), nm_e ⟨bt_v48 (q := 1) (by omega), nm_e ⟨bt_v48 (q := 1) (by omega), nm_e (nm_r (nI_1 1) ?_)⟩⟩⟩
  refine br_f (by decide) ⟨bt_v48 (q := 2) (by omega), nm_e ⟨bt_v48 (q := 2) (by omega), nm_e ⟨bt_v48 (q := 2) (by omega), nm_e (nm_r (nI_1 2) ?_)⟩⟩⟩
  refine br_t (by decide) (nm_e (nm_e ?_))
  refine ⟨4, br_f (by decide) ⟨bt_v48 (q := 0) (by omega), nm_e ⟨bt_v48 (q := 0) (by omega), nm_e ⟨bt_v48 (q := 0) (by omega), nm_e (nm_r (nI_1 0) ?_)⟩⟩⟩⟩
  refine br_f (by decide) ⟨bt_v48 (q := 1) (by omega), nm_e ⟨bt_v48 (q := 1) (by omega), nm_e ⟨bt_v48 (q := 1) (by omega), nm_e (nm_r (nI_1 1) ?_)⟩⟩⟩
  refine br_f (by decide) ⟨bt_v48 (q := 2) (by omega), nm_e ⟨bt_v48 (q := 2) (by omega), nm_e ⟨bt_v48 (q := 2) (by omega), nm_e (nm_r (nI_1 2) ?_)⟩⟩⟩
  refine br_t (by decide) ⟨25, yy_init24 (fun vc2 hv => ?_) 24 0 25 _ rfl (by omega) (fun j h => by omega)⟩
  exact bt_mkR (bt_R0 hv)
theorem i_vc_place {k : Nat} {u : SX} {v : SY} (I : i_Rel k u v) (hk : k + 6 ≤ 3072) (v1 : Int32) (v2 : Int32) : wpX_place (fun r u' => wpY_place (fun r' v' => r' = r ∧ i_Rel (k + 6) u' v') v v1 v2) u v1 v2 := by
  obtain ⟨ls, tl, ec, kc, es, tt, se, fr, st, dr, nm, pa, ve, sz, it, sm, hl, th, sp, tb, dl, dn, cc, cv, mn, mc, oc, on, om, op, tr, el, cm, sY, tY, dy, dm, vc, ms, me, cr, hd, hN, ps, la, ey, tn, tm, sn, sc, fn, fc, s, s', t, t', rfl, rfl, R⟩ := I
  obtain ⟨m, D, rx, dx⟩ := bt_xd v2
  unfold wpX_place wpY_place
  by_cases hn : (∃ q, q < 4 ∧ v1 = nI q ∧ th q ≠ 0) ∧ bt_g m D
  · obtain ⟨⟨p, hp, rfl, tp⟩, gx⟩ := hn
    obtain ⟨r, L', tr', el2, an, hT2, fX, fY⟩ := ev_R (ls := ls) (tl := tl) (ec := ec) (kc := kc) (st := st) (dr := dr) (nm := nm) (pa := pa) (ve := ve) (sz := sz) (it := it) (sm := sm) (hl := hl) (th := th) (sp := sp) (tb := tb) (dl := dl) (dn := dn) (cc := cc) (cv := cv) (mn := mn) (mc := mc) (oc := oc) (on := on) (om := om) (op := op) (tr := tr) (el := el) (cm := cm) R hp tp rx dx gx
    exact fX _ (yy_isPath1 hp tp rx dx gx (fun ey2 _ => br_f (by decide) (fY _ _ _ _ _ _ _ _ _ _ _ _ (fun es2 se2 ey3 tn2 tm2 sn2 sc2 ht => ⟨rfl, bt_mkR R⟩))))
  · exact xx_ev0 rx dx hn (yy_isPath0 rx dx hn (fun es2 ey2 => br_t rfl ⟨rfl, bt_mkR R⟩))
theorem i_vc_seen {k : Nat} {u : SX} {v : SY} (I : i_Rel k u v) (hk : k + 6 ≤ 3072) (v1 : Int32) (v2 : Int32) (v3 : Int32) : wpX_seen (fun r u' => wpY_seen (fun r' v' => r' = r ∧ i_Rel (k + 6) u' v') v v1 v2 v3) u v1 v2 v3 := by
  obtain ⟨ls, tl, ec, kc, es, tt, se, fr, st, dr, nm, pa, ve, sz, it, sm, hl, th, sp, tb, dl, dn, cc, cv, mn, mc, oc, on, om, op, tr, el, cm, sY, tY, dy, dm, vc, ms, me, cr, hd, hN, ps, la, ey, tn, tm, sn, sc, fn, fc, s, s', t, t', rfl, rfl, R⟩ := I
  obtain ⟨m, D, rx, dx⟩ := bt_xd v2
  unfold wpX_seen wpY_seen
  by_cases hn : (∃ q, q < 4 ∧ v1 = nI q ∧ th q ≠ 0) ∧ bt_g m D
  · obtain ⟨⟨p, hp, rfl, tp⟩, gx⟩ := hn
    obtain ⟨r, L', tr', el2, an, hT2, fX, fY⟩ := ev_R (ls := ls) (tl := tl) (ec := ec) (kc := kc) (st := st) (dr := dr) (nm := nm) (pa := pa) (ve := ve) (sz := sz) (it := it) (sm := sm) (hl := hl) (th := th) (sp := sp) (tb := tb) (dl := dl) (dn := dn) (cc := cc) (cv := cv) (mn := mn) (mc := mc) (oc := oc) (on := on) (om := om) (op := op) (tr := tr) (el := el) (cm := cm) R hp tp rx dx gx
    have ip := bt_ix4 hp
    rcases bt_an2 an with ng | ⟨n, hn, rfl, zn, _⟩
    · exact fX _ (br_f ng (yy_isPath1 hp tp rx dx gx (fun ey2 _ => br_f (by decide) (fY _ _ _ _ _ _ _ _ _ _ _ _ (fun es2 se2 ey3 tn2 tm2 sn2 sc2 ht => br_f ng ⟨rfl, bt_mkR R⟩)))))
    · have J := R
      obtain ⟨RA, B1, B2, RS, RT, RP⟩ := J
      obtain ⟨hT, hC, hD⟩ := RP p hp tp
      obtain ⟨sa, ha, sb, hb⟩ := RS.1 p hp
      have Nn : bt_N st (nI n) := ⟨n, hn, rfl, zn⟩
      obtain ⟨c, c1, c5, hv, _, _, hS⟩ := bt_view hC Nn
      have ho : ∀ k', bt_cf cc cv (s p) (nI n) = some k' → k' < 6 := fun k' hk' => (hS k' hk').1
      have i0 : (0 : Int32) ≤ nI n := nI_pos' (by omega)
      by_cases k0 : v3 < 0
      · refine fX _ (br_t i0 ⟨ip.2.2.2.2.1, ?_⟩)
        rw [ip.2.2.2.2.2.1, sa]
        exact xx_coverOf ha (bt_Cc hC) (br_t k0 (yy_isPath1 hp tp rx dx gx (fun ey2 _ => br_f (by decide) (fY _ _ _ _ _ _ _ _ _ _ _ _ (fun es2 se2 ey3 tn2 tm2 sn2 sc2 ht => br_t i0 (yy_look hp hb sb B2 hC Nn rfl hv c1 c5 (fun sn3 sc3 g1 _ _ => br_t k0 ⟨rfl, bt_mkR R⟩)))))))
      · by_cases kc : v3 < nI c
        · obtain ⟨j, hj, rfl⟩ := nI_of k0
          have jc : j < c := (nI_ltI hj (by omega)).mp kc
          have ij := bt_ix5 (q := j) (by omega)
          refine fX _ (br_t i0 ⟨ip.2.2.2.2.1, ?_⟩)
          rw [ip.2.2.2.2.2.1, sa]
          refine xx_coverOf ha (bt_Cc hC) (br_f k0 (xx_seenCount ha ho ?_))
          rw [hv]
          refine br_t kc (xx_seenNode ha (by omega) ho (yy_isPath1 hp tp rx dx gx (fun ey2 _ => br_f (by decide) (fY _ _ _ _ _ _ _ _ _ _ _ _ (fun es2 se2 ey3 tn2 tm2 sn2 sc2 ht => br_t i0 (yy_look hp hb sb B2 hC Nn rfl hv c1 c5 (fun sn3 sc3 g1 _ _ => br_f k0 (br_t kc ⟨ij.2.2.2.2.1, ?_, bt_mkR R⟩))))))))
          rw [ij.2.2.2.2.2.1]; exact g1 j jc
        · refine fX _ (br_t i0 ⟨ip.2.2.2.2.1, ?_⟩)
          rw [ip.2.2.2.2.2.1, sa]
          refine xx_coverOf ha (bt_Cc hC) (br_f k0 (xx_seenCount ha ho ?_))
          rw [hv]
          exact br_f kc (yy_isPath1 hp tp rx dx gx (fun ey2 _ => br_f (by decide) (fY _ _ _ _ _ _ _ _ _ _ _ _ (fun es2 se2 ey3 tn2 tm2 sn2 sc2 ht => br_t i0 (yy_look hp hb sb B2 hC Nn rfl hv c1 c5 (fun sn3 sc3 g1 _ _ => br_f k0 (br_f kc ⟨rfl, bt_mkR R⟩)))))))
  · exact xx_ev0 rx dx hn (br_f (by decide) (yy_isPath0 rx dx hn (fun es2 ey2 => br_t rfl ⟨rfl, bt_mkR R⟩)))
