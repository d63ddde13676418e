def i_Rel (_ : Nat) (u : SX) (v : SY) : Prop := ∃ (ls tl ec kc es tt se fr : Int32) (st dr nm pa ve sz it sm hl th sp tb dl dn cc cv mn mc oc on om op tr el cm sY tY dy dm vc ms me cr hd hN ps la ey tn tm sn sc fn fc : Nat → Int32) (s s' t t' : Nat → Nat), u = (ls, tl, ec, kc, st, dr, nm, pa, ve, sz, it, sm, hl, th, sp, tb, dl, dn, cc, cv, mn, mc, oc, on, om, op, tr, el, cm) ∧ v = (ls, es, tt, se, fr, st, nm, pa, ve, sz, sm, it, dr, th, sY, tY, dl, dy, dm, vc, ms, me, cr, hd, hN, ps, la, ey, tn, tm, sn, sc, fn, fc) ∧ bt_R st dr nm pa sz th dl sp tb dn cc cv mn mc oc on om op sY tY dy dm vc ms me cr hd hN ps la s s' t t'
theorem i_up {k : Nat} {u : SX} {v : SY} (h : i_Rel k u v) : i_Rel (k + 6) u v := h
section
variable {ls tl ec kc : Int32} {st dr nm pa ve sz it sm hl th sp tb dl dn cc cv mn mc oc on om op tr el cm : Nat → Int32} {es tt se fr : Int32} {sY tY dy dm vc ms me cr hd hN ps la ey tn tm sn sc fn fc : Nat → Int32} {s s' t t' : Nat → Nat}
theorem bt_mkR {k : Nat} (R : bt_R st dr nm pa sz th dl sp tb dn cc cv mn mc oc on om op sY tY dy dm vc ms me cr hd hN ps la s s' t t') : i_Rel k (ls, tl, ec, kc, st, dr, nm, pa, ve, sz, it, sm, hl, th, sp, tb, dl, dn, cc, cv, mn, mc, oc, on, om, op, tr, el, cm) (ls, es, tt, se, fr, st, nm, pa, ve, sz, sm, it, dr, th, sY, tY, dl, dy, dm, vc, ms, me, cr, hd, hN, ps, la, ey, tn, tm, sn, sc, fn, fc) := ⟨ls, tl, ec, kc, es, tt, se, fr, st, dr, nm, pa, ve, sz, it, sm, hl, th, sp, tb, dl, dn, cc, cv, mn, mc, oc, on, om, op, tr, el, cm, sY, tY, dy, dm, vc, ms, me, cr, hd, hN, ps, la, ey, tn, tm, sn, sc, fn, fc, s, s', t, t', rfl, rfl, R⟩
theorem ev_R {p m D : Nat} {x : Int32} (R : bt_R st dr nm pa sz th dl sp tb dn cc cv mn mc oc on om op sY tY dy dm vc ms me cr hd hN ps la s s' t t') (hp : p < 4) (tp : th p ≠ 0) (rx : bt_rw x m) (dx : bt_dg m D) (gx : bt_g m D) :
    ∃ (r : Int32) (L' : Nat) (tr' el2 : Nat → Int32), bt_an st tr' r L' ∧ (∃ tn tm, bt_tr st nm tr' tn tm L') ∧
      (∀ post : Int32 → SX → Prop, post r (ls, nI L', nI D, kc, st, dr, nm, pa, ve, sz, it, sm, hl, th, sp, tb, dl, dn, cc, cv, mn, mc, oc, on, om, op, tr', el2, cm) → wpX_evaluate post (ls, tl, ec, kc, st, dr, nm, pa, ve, sz, it, sm, hl, th, sp, tb, dl, dn, cc, cv, mn, mc, oc, on, om, op, tr, el, cm) (nI p) x) ∧
      (∀ (post : Int32 → SY → Prop) (es tt se fr : Int32) (ey tn tm sn sc fn fc : Nat → Int32), (∀ (es2 se2 : Int32) (ey2 tn2 tm2 sn2 sc2 : Nat → Int32), bt_tr st nm tr' tn2 tm2 L' → post r (ls, es2, nI L', se2, fr, st, nm, pa, ve, sz, sm, it, dr, th, sY, tY, dl, dy, dm, vc, ms, me, cr, hd, hN, ps, la, ey2, tn2, tm2, sn2, sc2, fn, fc)) →
        wpY_evaluate post (ls, es, tt, se, fr, st, nm, pa, ve, sz, sm, it, dr, th, sY, tY, dl, dy, dm, vc, ms, me, cr, hd, hN, ps, la, ey, tn, tm, sn, sc, fn, fc) (nI p) x 0) := by
  obtain ⟨RA, B1, B2, RS, RT, RP⟩ := R
  obtain ⟨hT, hC, hD⟩ := RP p hp tp
  obtain ⟨sa, ha, sb, hb⟩ := RS.1 p hp
  obtain ⟨r, L', tr', el2, an, hT2, fX, fY⟩ := ev_t (ls := ls) (tl := tl) (ec := ec) (kc := kc) (st := st) (dr := dr) (nm := nm) (pa := pa) (ve := ve) (sz := sz) (it := it) (sm := sm) (hl := hl) (th := th) (sp := sp) (tb := tb) (dl := dl) (dn := dn) (cc := cc) (cv := cv) (mn := mn) (mc := mc) (oc := oc) (on := on) (om := om) (op := op) (tr := tr) (el := el) (cm := cm) (lv := 0) hp ha hb sa sb B2 hC tp hT (RA.2.1 0 (by omega)) rx dx gx rx dx gx Iff.rfl (by rw [Int32.sub_zero])
    (fun j hj => by
      have : D - 1 - (D - 1 - j) = j := by omega
      rw [this]) (Nat.le_refl _)
  exact ⟨r, L', tr', el2, an, hT2, fX, fun post es tt se fr ey tn tm sn sc fn fc h => fY post es tt se fr ey tn tm sn sc fn fc (fun ey2 tn2 tm2 sn2 sc2 se2 _ ht => h _ _ _ _ _ _ _ ht)⟩
theorem xx_ev0 {post : Int32 → SX → Prop} {p x : Int32} {m D : Nat} (rx : bt_rw x m) (dx : bt_dg m D) (hn : ¬ ((∃ q, q < 4 ∧ p = nI q ∧ th q ≠ 0) ∧ bt_g m D)) (h : post (-1) (ls, tl, ec, kc, st, dr, nm, pa, ve, sz, it, sm, hl, th, sp, tb, dl, dn, cc, cv, mn, mc, oc, on, om, op, tr, el, cm)) : wpX_evaluate post (ls, tl, ec, kc, st, dr, nm, pa, ve, sz, it, sm, hl, th, sp, tb, dl, dn, cc, cv, mn, mc, oc, on, om, op, tr, el, cm) p x := by
  unfold wpX_evaluate
  by_cases hp : ∃ q, q < 4 ∧ p = nI q ∧ th q ≠ 0
  · obtain ⟨q, hq, rfl, tq⟩ := hp
    exact xx_isP1 hq tq (br_f (by decide) (xx_path rx dx (fun g => absurd ⟨⟨q, hq, rfl, tq⟩, g⟩ hn) (fun _ => br_t rfl h)))
  · exact xx_isP0 hp (br_t rfl h)
theorem yy_isPath1 {post : Int32 → SY → Prop} {p m D : Nat} {x : Int32} (hp : p < 4) (tp : th p ≠ 0) (rx : bt_rw x m) (dx : bt_dg m D) (gx : bt_g m D)
    (h : ∀ ey2 : Nat → Int32, (∀ k, k < D → ey2 k = nI (m / 11 ^ (D - 1 - k) % 11)) → post 1 (ls, nI D, tt, se, fr, st, nm, pa, ve, sz, sm, it, dr, th, sY, tY, dl, dy, dm, vc, ms, me, cr, hd, hN, ps, la, ey2, tn, tm, sn, sc, fn, fc)) : wpY_isPath post (ls, es, tt, se, fr, st, nm, pa, ve, sz, sm, it, dr, th, sY, tY, dl, dy, dm, vc, ms, me, cr, hd, hN, ps, la, ey, tn, tm, sn, sc, fn, fc) (nI p) x := by
  unfold wpY_isPath
  exact yy_isP1 hp tp (br_f (by decide) (yy_split rx dx (fun _ ey2 he => br_f (by decide) (h ey2 he)) (fun g => absurd gx g)))
theorem yy_isPath0 {post : Int32 → SY → Prop} {p x : Int32} {m D : Nat} (rx : bt_rw x m) (dx : bt_dg m D) (hn : ¬ ((∃ q, q < 4 ∧ p = nI q ∧ th q ≠ 0) ∧ bt_g m D))
    (h : ∀ (es2 : Int32) (ey2 : Nat → Int32), post 0 (ls, es2, tt, se, fr, st, nm, pa, ve, sz, sm, it, dr, th, sY, tY, dl, dy, dm, vc, ms, me, cr, hd, hN, ps, la, ey2, tn, tm, sn, sc, fn, fc)) : wpY_isPath post (ls, es, tt, se, fr, st, nm, pa, ve, sz, sm, it, dr, th, sY, tY, dl, dy, dm, vc, ms, me, cr, hd, hN, ps, la, ey, tn, tm, sn, sc, fn, fc) p x := by
  unfold wpY_isPath
  by_cases hp : ∃ q, q < 4 ∧ p = nI q ∧ th q ≠ 0
  · obtain ⟨q, hq, rfl, tq⟩ := hp
    exact yy_isP1 hq tq (br_f (by decide) (yy_split rx dx (fun g => absurd ⟨⟨q, hq, rfl, tq⟩, g⟩ hn) (fun _ ey2 => br_t rfl (h 0 ey2))))
  · exact yy_isP0 hp (br_t rfl (h es ey))
end
theorem bt_xd (x : Int32) : ∃ m D, bt_rw x m ∧ bt_dg m D := by
  obtain ⟨m, hm⟩ := bt_rw_e x
  obtain ⟨D, h9, hD⟩ := bt_dig m hm.1
  exact ⟨m, D, hm, h9, hD⟩
/-- the answer of an evaluation, two ways -/
theorem bt_an2 {st tr : Nat → Int32} {r : Int32} {L : Nat} (h : bt_an st tr r L) : (¬ 0 ≤ r) ∨ ∃ n, n < 48 ∧ r = nI n ∧ st n ≠ 0 ∧ tr (L - 1) = nI n := by
  rcases h with ⟨_, h⟩ | h
  · exact Or.inl h
  · exact Or.inr h
