section
variable {ls tl ec kc : Int32} {st dr nm pa ve sz it sm hl th sp tb dl dn cc cv mn mc oc on om op tr el cm : Nat → Int32} {es tt se fr : Int32} {sY tY dy dm vc ms me cr hd hN ps la ey tn tm sn sc fn fc : Nat → Int32}
theorem yy_init_l {post : Int32 → SY → Prop} {p L NN : Nat} {x lv : Int32} {gN gM : Nat → Int32} (hp : p < 4)
    (g1 : x < 0 → ∀ j, gN j = 0 ∧ gM j = 0) (g2 : ¬ x < 0 → ∀ j, gN j = dy (7 * p + j) ∧ gM j = dm (7 * p + j))
    (h : ∀ tn2 tm2 : Nat → Int32, (∀ j, j < 7 → tn2 j = gN j ∧ tm2 j = gM j) → wY_evaluate_97 post (nI p) lv NN (nI 0) ls es (nI L) se fr st nm pa ve sz sm it dr th sY tY dl dy dm vc ms me cr hd hN ps la ey tn2 tm2 sn sc fn fc) :
    ∀ (e i n : Nat) (tn tm : Nat → Int32), i + e = 7 → e < n → (∀ j, j < i → tn j = gN j ∧ tm j = gM j) → wY_evaluate_27 post (nI p) x lv ls es (nI L) se fr n (nI i) st nm pa ve sz sm it dr th sY tY dl dy dm vc ms me cr hd hN ps la ey tn tm sn sc fn fc := by
  intro e
  induction e with
  | zero =>
    intro i n tn tm hi hn hj
    obtain ⟨n, rfl⟩ : ∃ n', n = n' + 1 := ⟨n - 1, by omega⟩
    have : i = 7 := by omega
    subst this
    exact br_t (by decide) ⟨NN, h tn tm hj⟩
  | succ e ih =>
    intro i n tn tm hi hn hj
    obtain ⟨n, rfl⟩ : ∃ n', n = n' + 1 := ⟨n - 1, by omega⟩
    have ix := bt_ix7 (q := i) (by omega)
    have iy := bt_ix28 (q := 7 * p + i) (by omega)
    have e7 : 7 * nI p + nI i = nI (7 * p + i) := by rw [bt_7m, nI_add]
    have nx : ∀ y z : Int32, y = gN i → z = gM i → wY_evaluate_27 post (nI p) x lv ls es (nI L) se fr n (nI (i + 1)) st nm pa ve sz sm it dr th sY tY dl dy dm vc ms me cr hd hN ps la ey (upd tn i y) (upd tm i z) sn sc fn fc := by
      intro y z hy hz
      refine ih (i + 1) n _ _ (by omega) (by omega) (fun j h => ?_)
      by_cases w : j = i
      · rw [w, pk_us, pk_us]; exact ⟨hy, hz⟩
      · rw [pk_un w, pk_un w]; exact hj j (by omega)
    refine br_f ix.2.2.2.1 ?_
    by_cases z : x < 0
    · refine br_f (bt_neg0 z) ⟨ix.2.2.2.2.1, nm_e (br_f (bt_neg0 z) ⟨ix.2.2.2.2.1, nm_e (nm_r (nI_1 _) ?_)⟩)⟩
      rw [ix.2.2.2.2.2.1]
      exact nx 0 0 (g1 z i).1.symm (g1 z i).2.symm
    · have z' : 0 ≤ x := Int32.not_lt.mp z
      rw [e7, iy.2.2.2.2.2.1]
      refine br_t z' ⟨iy.2.2.2.2.1, ix.2.2.2.2.1, nm_e (br_t z' ?_)⟩
      rw [e7, iy.2.2.2.2.2.1]
      refine ⟨iy.2.2.2.2.1, ix.2.2.2.2.1, nm_e (nm_r (nI_1 _) ?_)⟩
      rw [ix.2.2.2.2.2.1]
      exact nx _ _ (g2 z i).1.symm (g2 z i).2.symm
theorem ev_t {p a b K D mX mY : Nat} {xX xY lv : Int32} (hp : p < 4) (ha : a < 4) (hb : b < 4) (sa : sp p = nI a) (sb : sY p = nI b) (hB : ∀ i, bt_B (cr i))
    (hC : ∀ k, k < 6 → bt_C st cc cv mn mc vc ms me cr (6 * a + k) (6 * b + k)) (ht : th p ≠ 0) (hT : bt_T st nm dl dn dy dm p) (s0 : st 0 ≠ 0)
    (rX : bt_rw xX mX) (dX : bt_dg mX K) (gX : bt_g mX K) (rY : bt_rw xY mY) (dY : bt_dg mY D) (gY : bt_g mY D) (sg : xX < 0 ↔ xY < 0)
    (hlv : nI D - lv = nI K) (hE : ∀ j, j < K → mX / 11 ^ j % 11 = mY / 11 ^ (D - 1 - (K - 1 - j)) % 11) (KD : K ≤ D) :
    ∃ (r : Int32) (L' : Nat) (tr' el2 : Nat → Int32), bt_an st tr' r L' ∧ (∃ tn tm, bt_tr st nm tr' tn tm L') ∧
      (∀ post : Int32 → SX → Prop, post r (ls, nI L', nI K, kc, st, dr, nm, pa, ve, sz, it, sm, hl, th, sp, tb, dl, dn, cc, cv, mn, mc, oc, on, om, op, tr', el2, cm) → wpX_evaluate post (ls, tl, ec, kc, st, dr, nm, pa, ve, sz, it, sm, hl, th, sp, tb, dl, dn, cc, cv, mn, mc, oc, on, om, op, tr, el, cm) (nI p) xX) ∧
      (∀ (post : Int32 → SY → Prop) (es tt se fr : Int32) (ey tn tm sn sc fn fc : Nat → Int32), (∀ (ey2 tn2 tm2 sn2 sc2 : Nat → Int32) (se2 : Int32), (∀ k, k < D → ey2 k = nI (mY / 11 ^ (D - 1 - k) % 11)) → bt_tr st nm tr' tn2 tm2 L' → post r (ls, nI D, nI L', se2, fr, st, nm, pa, ve, sz, sm, it, dr, th, sY, tY, dl, dy, dm, vc, ms, me, cr, hd, hN, ps, la, ey2, tn2, tm2, sn2, sc2, fn, fc)) →
        wpY_evaluate post (ls, es, tt, se, fr, st, nm, pa, ve, sz, sm, it, dr, th, sY, tY, dl, dy, dm, vc, ms, me, cr, hd, hN, ps, la, ey, tn, tm, sn, sc, fn, fc) (nI p) xY lv) := by
  obtain ⟨L0, l1, l7, el0, d0, hf⟩ := hT
  have ip := bt_ix4 hp
  -- the trail's beginning
  have hL : ∃ L, 1 ≤ L ∧ L ≤ L0 ∧ (xX < 0 → L = 1) ∧ (¬ xX < 0 → L = L0) := by
    by_cases z : xX < 0
    · exact ⟨1, by omega, by omega, fun _ => rfl, fun y => absurd z y⟩
    · exact ⟨L0, l1, by omega, fun y => absurd y z, fun _ => rfl⟩
  obtain ⟨L, L1, LL, hL1, hL2⟩ := hL
  obtain ⟨tr2, t2, beg⟩ := xx_begin (ls := ls) (tl := tl) (ec := ec) (kc := kc) (st := st) (dr := dr) (nm := nm) (pa := pa) (ve := ve) (sz := sz) (it := it) (sm := sm) (hl := hl) (th := th) (sp := sp) (tb := tb) (dl := dl) (dn := dn) (cc := cc) (cv := cv) (mn := mn) (mc := mc) (oc := oc) (on := on) (om := om) (op := op) (tr := tr) (el := el) (cm := cm) (x := xX) hp (show L ≤ 7 by omega) hL1 (fun z => by rw [hL2 z]; exact el0)
  obtain ⟨el2, e2, rea⟩ := xx_readE (ls := ls) (tl := nI L) (ec := ec) (kc := kc) (st := st) (dr := dr) (nm := nm) (pa := pa) (ve := ve) (sz := sz) (it := it) (sm := sm) (hl := hl) (th := th) (sp := sp) (tb := tb) (dl := dl) (dn := dn) (cc := cc) (cv := cv) (mn := mn) (mc := mc) (oc := oc) (on := on) (om := om) (op := op) (tr := tr2) (el := el) (cm := cm) rX dX gX.1
  have trs : ∀ tn2 tm2 : Nat → Int32, (∀ j, j < L → tn2 j = dn (7 * p + j) ∧ (1 ≤ j → tm2 j = dm (7 * p + j))) → bt_tr st nm tr2 tn2 tm2 L := by
    intro tn2 tm2 h
    refine ⟨L1, by omega, (t2 0 (by omega)).trans d0, fun i hi => ?_⟩
    obtain ⟨_, n, hn, en, zn, fn⟩ := hf i (by omega)
    refine ⟨(t2 i hi).trans (h i hi).1.symm, n, hn, (t2 i hi).trans en, zn, fun h1 => ?_⟩
    rw [(h i hi).2 h1]; exact fn h1
  obtain ⟨r, L', tr', an, hT2, fX, fY⟩ := ev_l (ls := ls) (ec := nI K) (kc := kc) (st := st) (dr := dr) (nm := nm) (pa := pa) (ve := ve) (sz := sz) (it := it) (sm := sm) (hl := hl) (th := th) (sp := sp) (tb := tb) (dl := dl) (dn := dn) (cc := cc) (cv := cv) (mn := mn) (mc := mc) (oc := oc) (on := on) (om := om) (op := op) (el := el2) (cm := cm) (es := nI D) (sY := sY) (tY := tY) (dy := dy) (dm := dm) (vc := vc) (ms := ms) (me := me) (cr := cr) (hd := hd) (hN := hN) (ps := ps) (la := la) (E := fun k => mY / 11 ^ (D - 1 - k) % 11) (lv := lv) hp ha hb sa sb hB hC gX.1
    (fun k _ => by omega) (fun j hj => by rw [e2 j hj, hE j hj]) hlv K 0 tr2 L (by omega) ⟨_, _, trs (fun j => dn (7 * p + j)) (fun j => dm (7 * p + j)) (fun j _ => ⟨rfl, fun _ => rfl⟩)⟩
  refine ⟨r, L', tr', el2, an, hT2, fun post h => ?_, fun post es tt se fr ey tn tm sn sc fn fc h => ?_⟩
  · unfold wpX_evaluate
    exact xx_isP1 hp ht (br_f (by decide) (xx_path rX dX (fun _ => br_f (by decide) (beg _ (rea _ (nm_e ⟨K + 1, fX post (K + 1) (by omega) h⟩)))) (fun z => absurd gX z)))
  · unfold wpY_evaluate
    refine yy_split rY dY (fun _ ey2 hey => ?_) (fun z => absurd gY z)
    have fin : ∀ gN gM : Nat → Int32, (∀ j, j < L → gN j = dn (7 * p + j) ∧ (1 ≤ j → gM j = dm (7 * p + j))) → ∀ tn2 tm2 : Nat → Int32, (∀ j, j < 7 → tn2 j = gN j ∧ tm2 j = gM j) →
        wY_evaluate_97 post (nI p) lv (K + 1) (nI 0) ls (nI D) (nI L) se fr st nm pa ve sz sm it dr th sY tY dl dy dm vc ms me cr hd hN ps la ey2 tn2 tm2 sn sc fn fc := by
      intro gN gM hg tn2 tm2 h7
      refine fY post (K + 1) fr fn fc ey2 tn2 tm2 sn sc se (by omega) (fun k hk => hey k (by omega)) (trs tn2 tm2 (fun j hj => ?_)) (fun tn3 tm3 sn3 sc3 se3 h3 => h ey2 tn3 tm3 sn3 sc3 se3 hey h3)
      rw [(h7 j (by omega)).1, (h7 j (by omega)).2]; exact hg j hj
    by_cases z : xX < 0
    · have zY := sg.mp z
      have eL := hL1 z
      refine br_f (bt_neg0 zY) ⟨8, ?_⟩
      have := yy_init_l (post := post) (p := p) (L := L) (x := xY) (lv := lv) (gN := fun _ => 0) (gM := fun _ => 0) hp (fun _ _ => ⟨rfl, rfl⟩) (fun y => absurd zY y)
        (fin (fun _ => 0) (fun _ => 0) (fun j hj => by
          have : j = 0 := by omega
          subst this
          exact ⟨d0.symm, fun y => by omega⟩)) 7 0 8 tn tm rfl (by omega) (fun j hj => by omega)
      rw [eL] at this
      exact this
    · have zY : ¬ xY < 0 := fun y => z (sg.mpr y)
      have eL := hL2 z
      refine br_t (Int32.not_lt.mp zY) ⟨ip.2.2.2.2.1, nm_r (show _ = nI L from ?_) ⟨8, ?_⟩⟩
      · rw [ip.2.2.2.2.2.1, eL]; exact el0
      · exact yy_init_l (post := post) (p := p) (L := L) (x := xY) (lv := lv) (gN := fun j => dy (7 * p + j)) (gM := fun j => dm (7 * p + j)) hp (fun y => absurd y zY) (fun _ _ => ⟨rfl, rfl⟩)
          (fin _ _ (fun j hj => ⟨(hf j (by omega)).1.symm, fun _ => rfl⟩)) 7 0 8 tn tm rfl (by omega) (fun j hj => by omega)
end
