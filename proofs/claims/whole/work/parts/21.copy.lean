section
variable {ls tl ec kc : Int32} {st dr nm pa ve sz it sm hl th sp tb dl dn cc cv mn mc oc on om op tr el cm : Nat → Int32} {es tt se fr : Int32} {sY tY dy dm vc ms me cr hd hN ps la ey tn tm sn sc fn fc : Nat → Int32} {s s' t t' : Nat → Nat}
theorem xx_cs64 {post : SX → Prop} {a0 a : Nat} (h0 : a0 < 4) (ha : a < 4) (ne : a0 ≠ a) (hBmc : ∀ i, bt_B (mc i))
    (h : ∀ mn2 mc2 : Nat → Int32, bt_cp mn mn2 (30 * a0) (30 * a) 30 → bt_cp mc mc2 (30 * a0) (30 * a) 30 → post (ls, tl, ec, kc, st, dr, nm, pa, ve, sz, it, sm, hl, th, sp, tb, dl, dn, cc, cv, mn2, mc2, oc, on, om, op, tr, el, cm)) :
    ∀ (e i n : Nat) (mn2 mc2 : Nat → Int32), i + e = 30 → e < n → bt_cp mn mn2 (30 * a0) (30 * a) i → bt_cp mc mc2 (30 * a0) (30 * a) i → wX_copySpace_64 post (nI a0) (nI a) 30 ls tl ec kc n (nI i) st dr nm pa ve sz it sm hl th sp tb dl dn cc cv mn2 mc2 oc on om op tr el cm := by
  have hd : 30 * a0 + 30 ≤ 30 * a ∨ 30 * a + 30 ≤ 30 * a0 := by rcases Nat.lt_or_gt_of_ne ne with z | z <;> omega
  intro e
  induction e with
  | zero =>
    intro i n mn2 mc2 hi hn c0 c1
    obtain ⟨n, rfl⟩ : ∃ n', n = n' + 1 := ⟨n - 1, by omega⟩
    have : i = 30 := by omega
    subst this
    exact br_t (by decide) (h _ _ c0 c1)
  | succ e ih =>
    intro i n mn2 mc2 hi hn c0 c1
    obtain ⟨n, rfl⟩ : ∃ n', n = n' + 1 := ⟨n - 1, by omega⟩
    have iS := bt_ix120 (q := 30 * a0 + i) (by omega)
    have iD := bt_ix120 (q := 30 * a + i) (by omega)
    have eS : nI a0 * 30 + nI i = nI (30 * a0 + i) := by rw [bt_m30, nI_add]
    have eD : nI a * 30 + nI i = nI (30 * a + i) := by rw [bt_m30, nI_add]
    refine br_f (nI_ge (b := 30) (by omega) (by decide)) ?_
    rw [eS, eD, iS.2.2.2.2.2.1, iD.2.2.2.2.2.1, bt_nB (bt_cp_B c1 hBmc _)]
    exact ⟨iS.2.2.2.2.1, iD.2.2.2.2.1, nm_e ⟨iS.2.2.2.2.1, iD.2.2.2.2.1, nm_e (nm_r (nI_1 _) (ih (i + 1) n _ _ (by omega) (by omega) (bt_cp_s c0 (len := 30) (by omega) hd rfl) (bt_cp_s c1 (len := 30) (by omega) hd rfl)))⟩⟩
theorem xx_cs2' {post : SX → Prop} {a0 a : Nat} (h0 : a0 < 4) (ha : a < 4) (ne : a0 ≠ a) (hBmc : ∀ i, bt_B (mc i))
    (h : ∀ cc2 cv2 mn2 mc2 : Nat → Int32, bt_cp cc cc2 (6 * a0) (6 * a) 6 → bt_cp cv cv2 (6 * a0) (6 * a) 6 → bt_cp mn mn2 (30 * a0) (30 * a) 30 → bt_cp mc mc2 (30 * a0) (30 * a) 30 → post (ls, tl, ec, kc, st, dr, nm, pa, ve, sz, it, sm, hl, th, sp, tb, dl, dn, cc2, cv2, mn2, mc2, oc, on, om, op, tr, el, cm))
    (cc2 cv2 : Nat → Int32) (h1 : bt_cp cc cc2 (6 * a0) (6 * a) 6) (h2 : bt_cp cv cv2 (6 * a0) (6 * a) 6) : ∃ n, wX_copySpace_64 post (nI a0) (nI a) 30 ls tl ec kc n 0 st dr nm pa ve sz it sm hl th sp tb dl dn cc2 cv2 mn mc oc on om op tr el cm :=
  ⟨31, xx_cs64 h0 ha ne hBmc (fun mn2 mc2 h3 h4 => h cc2 cv2 mn2 mc2 h1 h2 h3 h4) 30 0 31 mn mc rfl (by omega) bt_cp_0 bt_cp_0⟩
theorem xx_cs2 {post : SX → Prop} {a0 a : Nat} (h0 : a0 < 4) (ha : a < 4) (ne : a0 ≠ a)
    (h : ∀ cc2 cv2 : Nat → Int32, bt_cp cc cc2 (6 * a0) (6 * a) 6 → bt_cp cv cv2 (6 * a0) (6 * a) 6 → ∃ n, wX_copySpace_64 post (nI a0) (nI a) 30 ls tl ec kc n 0 st dr nm pa ve sz it sm hl th sp tb dl dn cc2 cv2 mn mc oc on om op tr el cm) :
    ∀ (e i n : Nat) (cc2 cv2 : Nat → Int32), i + e = 6 → e < n → bt_cp cc cc2 (6 * a0) (6 * a) i → bt_cp cv cv2 (6 * a0) (6 * a) i → wX_copySpace_2 post (nI a0) (nI a) ls tl ec kc n (nI i) st dr nm pa ve sz it sm hl th sp tb dl dn cc2 cv2 mn mc oc on om op tr el cm := by
  have hd : 6 * a0 + 6 ≤ 6 * a ∨ 6 * a + 6 ≤ 6 * a0 := by rcases Nat.lt_or_gt_of_ne ne with z | z <;> omega
  intro e
  induction e with
  | zero =>
    intro i n cc2 cv2 hi hn c0 c1
    obtain ⟨n, rfl⟩ : ∃ n', n = n' + 1 := ⟨n - 1, by omega⟩
    have : i = 6 := by omega
    subst this
    exact br_t (by decide) (h _ _ c0 c1)
  | succ e ih =>
    intro i n cc2 cv2 hi hn c0 c1
    obtain ⟨n, rfl⟩ : ∃ n', n = n' + 1 := ⟨n - 1, by omega⟩
    have iS := bt_ix24 (q := 6 * a0 + i) (by omega)
    have iD := bt_ix24 (q := 6 * a + i) (by omega)
    have eS : nI a0 * 6 + nI i = nI (6 * a0 + i) := by rw [bt_m6, nI_add]
    have eD : nI a * 6 + nI i = nI (6 * a + i) := by rw [bt_m6, nI_add]
    refine br_f (nI_ge (b := 6) (by omega) (by decide)) ?_
    rw [eS, eD, iS.2.2.2.2.2.1, iD.2.2.2.2.2.1]
    exact ⟨iS.2.2.2.2.1, iD.2.2.2.2.1, nm_e ⟨iS.2.2.2.2.1, iD.2.2.2.2.1, nm_e (nm_r (nI_1 _) (ih (i + 1) n _ _ (by omega) (by omega) (bt_cp_s c0 (len := 6) (by omega) hd rfl) (bt_cp_s c1 (len := 6) (by omega) hd rfl)))⟩⟩
theorem xx_copySpace {post : SX → Prop} {a0 a : Nat} (h0 : a0 < 4) (ha : a < 4) (ne : a0 ≠ a) (hBmc : ∀ i, bt_B (mc i))
    (h : ∀ cc2 cv2 mn2 mc2 : Nat → Int32, bt_cp cc cc2 (6 * a0) (6 * a) 6 → bt_cp cv cv2 (6 * a0) (6 * a) 6 → bt_cp mn mn2 (30 * a0) (30 * a) 30 → bt_cp mc mc2 (30 * a0) (30 * a) 30 → post (ls, tl, ec, kc, st, dr, nm, pa, ve, sz, it, sm, hl, th, sp, tb, dl, dn, cc2, cv2, mn2, mc2, oc, on, om, op, tr, el, cm)) : wpX_copySpace post (ls, tl, ec, kc, st, dr, nm, pa, ve, sz, it, sm, hl, th, sp, tb, dl, dn, cc, cv, mn, mc, oc, on, om, op, tr, el, cm) (nI a0) (nI a) :=
  ⟨7, xx_cs2 h0 ha ne (fun cc2 cv2 h1 h2 => xx_cs2' h0 ha ne hBmc h cc2 cv2 h1 h2) 6 0 7 cc cv rfl (by omega) bt_cp_0 bt_cp_0⟩
theorem xx_ct79 {post : SX → Prop} {a0 a : Nat} (h0 : a0 < 4) (ha : a < 4) (ne : a0 ≠ a)
    (h : ∀ on2 : Nat → Int32, bt_cp on on2 (20 * a0) (20 * a) 20 → post (ls, tl, ec, kc, st, dr, nm, pa, ve, sz, it, sm, hl, th, sp, tb, dl, dn, cc, cv, mn, mc, oc, on2, om, op, tr, el, cm)) :
    ∀ (e i n : Nat) (on2 : Nat → Int32), i + e = 20 → e < n → bt_cp on on2 (20 * a0) (20 * a) i → wX_copyTable_79 post (nI a0) (nI a) 20 ls tl ec kc n (nI i) st dr nm pa ve sz it sm hl th sp tb dl dn cc cv mn mc oc on2 om op tr el cm := by
  have hd : 20 * a0 + 20 ≤ 20 * a ∨ 20 * a + 20 ≤ 20 * a0 := by rcases Nat.lt_or_gt_of_ne ne with z | z <;> omega
  intro e
  induction e with
  | zero =>
    intro i n on2 hi hn c0
    obtain ⟨n, rfl⟩ : ∃ n', n = n' + 1 := ⟨n - 1, by omega⟩
    have : i = 20 := by omega
    subst this
    exact br_t (by decide) (h _ c0)
  | succ e ih =>
    intro i n on2 hi hn c0
    obtain ⟨n, rfl⟩ : ∃ n', n = n' + 1 := ⟨n - 1, by omega⟩
    have iS := bt_ix80 (q := 20 * a0 + i) (by omega)
    have iD := bt_ix80 (q := 20 * a + i) (by omega)
    have eS : nI a0 * 20 + nI i = nI (20 * a0 + i) := by rw [bt_m20, nI_add]
    have eD : nI a * 20 + nI i = nI (20 * a + i) := by rw [bt_m20, nI_add]
    refine br_f (nI_ge (b := 20) (by omega) (by decide)) ?_
    rw [eS, eD, iS.2.2.2.2.2.1, iD.2.2.2.2.2.1]
    exact ⟨iS.2.2.2.2.1, iD.2.2.2.2.1, nm_e (nm_r (nI_1 _) (ih (i + 1) n _ (by omega) (by omega) (bt_cp_s c0 (len := 20) (by omega) hd rfl)))⟩
theorem xx_ct2 {post : SX → Prop} {a0 a : Nat} (h0 : a0 < 4) (ha : a < 4) (ne : a0 ≠ a)
    (h : ∀ oc2 om2 op2 : Nat → Int32, bt_cp oc oc2 (4 * a0) (4 * a) 4 → bt_cp om om2 (4 * a0) (4 * a) 4 → bt_cp op op2 (4 * a0) (4 * a) 4 → ∃ n, wX_copyTable_79 post (nI a0) (nI a) 20 ls tl ec kc n 0 st dr nm pa ve sz it sm hl th sp tb dl dn cc cv mn mc oc2 on om2 op2 tr el cm) :
    ∀ (e i n : Nat) (oc2 om2 op2 : Nat → Int32), i + e = 4 → e < n → bt_cp oc oc2 (4 * a0) (4 * a) i → bt_cp om om2 (4 * a0) (4 * a) i → bt_cp op op2 (4 * a0) (4 * a) i → wX_copyTable_2 post (nI a0) (nI a) ls tl ec kc n (nI i) st dr nm pa ve sz it sm hl th sp tb dl dn cc cv mn mc oc2 on om2 op2 tr el cm := by
  have hd : 4 * a0 + 4 ≤ 4 * a ∨ 4 * a + 4 ≤ 4 * a0 := by rcases Nat.lt_or_gt_of_ne ne with z | z <;> omega
  intro e
  induction e with
  | zero =>
    intro i n oc2 om2 op2 hi hn c0 c1 c2
    obtain ⟨n, rfl⟩ : ∃ n', n = n' + 1 := ⟨n - 1, by omega⟩
    have : i = 4 := by omega
    subst this
    exact br_t (by decide) (h _ _ _ c0 c1 c2)
  | succ e ih =>
    intro i n oc2 om2 op2 hi hn c0 c1 c2
    obtain ⟨n, rfl⟩ : ∃ n', n = n' + 1 := ⟨n - 1, by omega⟩
    have iS := bt_ix16 (q := 4 * a0 + i) (by omega)
    have iD := bt_ix16 (q := 4 * a + i) (by omega)
    have eS : nI a0 * 4 + nI i = nI (4 * a0 + i) := by rw [bt_m4, nI_add]
    have eD : nI a * 4 + nI i = nI (4 * a + i) := by rw [bt_m4, nI_add]
    refine br_f (nI_ge (b := 4) (by omega) (by decide)) ?_
    rw [eS, eD, iS.2.2.2.2.2.1, iD.2.2.2.2.2.1]
    exact ⟨iS.2.2.2.2.1, iD.2.2.2.2.1, nm_e ⟨iS.2.2.2.2.1, iD.2.2.2.2.1, nm_e ⟨iS.2.2.2.2.1, iD.2.2.2.2.1, nm_e (nm_r (nI_1 _) (ih (i + 1) n _ _ _ (by omega) (by omega) (bt_cp_s c0 (len := 4) (by omega) hd rfl) (bt_cp_s c1 (len := 4) (by omega) hd rfl) (bt_cp_s c2 (len := 4) (by omega) hd rfl)))⟩⟩⟩
theorem xx_copyTable {post : SX → Prop} {a0 a : Nat} (h0 : a0 < 4) (ha : a < 4) (ne : a0 ≠ a)
    (h : ∀ oc2 om2 op2 on2 : Nat → Int32, bt_cp oc oc2 (4 * a0) (4 * a) 4 → bt_cp om om2 (4 * a0) (4 * a) 4 → bt_cp op op2 (4 * a0) (4 * a) 4 → bt_cp on on2 (20 * a0) (20 * a) 20 → post (ls, tl, ec, kc, st, dr, nm, pa, ve, sz, it, sm, hl, th, sp, tb, dl, dn, cc, cv, mn, mc, oc2, on2, om2, op2, tr, el, cm)) : wpX_copyTable post (ls, tl, ec, kc, st, dr, nm, pa, ve, sz, it, sm, hl, th, sp, tb, dl, dn, cc, cv, mn, mc, oc, on, om, op, tr, el, cm) (nI a0) (nI a) :=
  ⟨5, xx_ct2 h0 ha ne (fun oc2 om2 op2 h1 h2 h3 => ⟨21, xx_ct79 h0 ha ne (fun on2 h4 => h oc2 om2 op2 on2 h1 h2 h3 h4) 20 0 21 on rfl (by omega) bt_cp_0⟩) 4 0 5 oc om op rfl (by omega) bt_cp_0 bt_cp_0 bt_cp_0⟩
theorem xx_cd2 {post : SX → Prop} {a0 a : Nat} (h0 : a0 < 4) (ha : a < 4) (ne : a0 ≠ a)
    (h : ∀ dn2 : Nat → Int32, bt_cp dn dn2 (7 * a0) (7 * a) 7 → post (ls, tl, ec, kc, st, dr, nm, pa, ve, sz, it, sm, hl, th, sp, tb, upd dl a (dl a0), dn2, cc, cv, mn, mc, oc, on, om, op, tr, el, cm)) :
    ∀ (e i n : Nat) (dn2 : Nat → Int32), i + e = 7 → e < n → bt_cp dn dn2 (7 * a0) (7 * a) i → wX_copyDot_2 post (nI a0) (nI a) ls tl ec kc n (nI i) st dr nm pa ve sz it sm hl th sp tb dl dn2 cc cv mn mc oc on om op tr el cm := by
  have hd : 7 * a0 + 7 ≤ 7 * a ∨ 7 * a + 7 ≤ 7 * a0 := by rcases Nat.lt_or_gt_of_ne ne with z | z <;> omega
  intro e
  induction e with
  | zero =>
    intro i n dn2 hi hn c0
    obtain ⟨n, rfl⟩ : ∃ n', n = n' + 1 := ⟨n - 1, by omega⟩
    have : i = 7 := by omega
    subst this
    exact br_t (by decide) ⟨(bt_ix4 h0).2.2.2.2.1, (bt_ix4 ha).2.2.2.2.1, nm_r (by rw [(bt_ix4 h0).2.2.2.2.2.1, (bt_ix4 ha).2.2.2.2.2.1]) (h _ c0)⟩
  | succ e ih =>
    intro i n dn2 hi hn c0
    obtain ⟨n, rfl⟩ : ∃ n', n = n' + 1 := ⟨n - 1, by omega⟩
    have iS := bt_ix28 (q := 7 * a0 + i) (by omega)
    have iD := bt_ix28 (q := 7 * a + i) (by omega)
    have eS : nI a0 * 7 + nI i = nI (7 * a0 + i) := by rw [bt_m7, nI_add]
    have eD : nI a * 7 + nI i = nI (7 * a + i) := by rw [bt_m7, nI_add]
    refine br_f (nI_ge (b := 7) (by omega) (by decide)) ?_
    rw [eS, eD, iS.2.2.2.2.2.1, iD.2.2.2.2.2.1]
    exact ⟨iS.2.2.2.2.1, iD.2.2.2.2.1, nm_e (nm_r (nI_1 _) (ih (i + 1) n _ (by omega) (by omega) (bt_cp_s c0 (len := 7) (by omega) hd rfl)))⟩
theorem xx_copyDot {post : SX → Prop} {a0 a : Nat} (h0 : a0 < 4) (ha : a < 4) (ne : a0 ≠ a)
    (h : ∀ dn2 : Nat → Int32, bt_cp dn dn2 (7 * a0) (7 * a) 7 → post (ls, tl, ec, kc, st, dr, nm, pa, ve, sz, it, sm, hl, th, sp, tb, upd dl a (dl a0), dn2, cc, cv, mn, mc, oc, on, om, op, tr, el, cm)) : wpX_copyDot post (ls, tl, ec, kc, st, dr, nm, pa, ve, sz, it, sm, hl, th, sp, tb, dl, dn, cc, cv, mn, mc, oc, on, om, op, tr, el, cm) (nI a0) (nI a) :=
  ⟨8, xx_cd2 h0 ha ne h 7 0 8 dn rfl (by omega) bt_cp_0⟩
theorem yy_cs75 {post : SY → Prop} {a0 a : Nat} (h0 : a0 < 4) (ha : a < 4) (ne : a0 ≠ a) (hBcr : ∀ i, bt_B (cr i))
    (h : ∀ me2 cr2 : Nat → Int32, bt_cp me me2 (30 * a0) (30 * a) 30 → bt_cp cr cr2 (30 * a0) (30 * a) 30 → post (ls, es, tt, se, fr, st, nm, pa, ve, sz, sm, it, dr, th, sY, tY, dl, dy, dm, vc, ms, me2, cr2, hd, hN, ps, la, ey, tn, tm, sn, sc, fn, fc)) :
    ∀ (e i n : Nat) (me2 cr2 : Nat → Int32), i + e = 30 → e < n → bt_cp me me2 (30 * a0) (30 * a) i → bt_cp cr cr2 (30 * a0) (30 * a) i → wY_copySpace_75 post (nI a0) (nI a) ls es tt se fr n (nI i) st nm pa ve sz sm it dr th sY tY dl dy dm vc ms me2 cr2 hd hN ps la ey tn tm sn sc fn fc := by
  have hd : 30 * a0 + 30 ≤ 30 * a ∨ 30 * a + 30 ≤ 30 * a0 := by rcases Nat.lt_or_gt_of_ne ne with z | z <;> omega
  intro e
  induction e with
  | zero =>
    intro i n me2 cr2 hi hn c0 c1
    obtain ⟨n, rfl⟩ : ∃ n', n = n' + 1 := ⟨n - 1, by omega⟩
    have : i = 30 := by omega
    subst this
    exact br_t (by decide) (h _ _ c0 c1)
  | succ e ih =>
    intro i n me2 cr2 hi hn c0 c1
    obtain ⟨n, rfl⟩ : ∃ n', n = n' + 1 := ⟨n - 1, by omega⟩
    have iS := bt_ix120 (q := 30 * a0 + i) (by omega)
    have iD := bt_ix120 (q := 30 * a + i) (by omega)
    have eS : 30 * nI a0 + nI i = nI (30 * a0 + i) := by rw [bt_30m, nI_add]
    have eD : 30 * nI a + nI i = nI (30 * a + i) := by rw [bt_30m, nI_add]
    refine br_f (nI_ge (b := 30) (by omega) (by decide)) ?_
    rw [eS, eD, iS.2.2.2.2.2.1, iD.2.2.2.2.2.1, bt_nB (bt_cp_B c1 hBcr _)]
    exact ⟨iS.2.2.2.2.1, iD.2.2.2.2.1, nm_e ⟨iS.2.2.2.2.1, iD.2.2.2.2.1, nm_e (nm_r (nI_1 _) (ih (i + 1) n _ _ (by omega) (by omega) (bt_cp_s c0 (len := 30) (by omega) hd rfl) (bt_cp_s c1 (len := 30) (by omega) hd rfl)))⟩⟩
theorem yy_ct75 {post : SY → Prop} {a0 a : Nat} (h0 : a0 < 4) (ha : a < 4) (ne : a0 ≠ a)
    (h : ∀ hN2 : Nat → Int32, bt_cp hN hN2 (20 * a0) (20 * a) 20 → post (ls, es, tt, se, fr, st, nm, pa, ve, sz, sm, it, dr, th, sY, tY, dl, dy, dm, vc, ms, me, cr, hd, hN2, ps, la, ey, tn, tm, sn, sc, fn, fc)) :
    ∀ (e i n : Nat) (hN2 : Nat → Int32), i + e = 20 → e < n → bt_cp hN hN2 (20 * a0) (20 * a) i → wY_copyTable_75 post (nI a0) (nI a) ls es tt se fr n (nI i) st nm pa ve sz sm it dr th sY tY dl dy dm vc ms me cr hd hN2 ps la ey tn tm sn sc fn fc := by
  have hd : 20 * a0 + 20 ≤ 20 * a ∨ 20 * a + 20 ≤ 20 * a0 := by rcases Nat.lt_or_gt_of_ne ne with z | z <;> omega
  intro e
  induction e with
  | zero =>
    intro i n hN2 hi hn c0
    obtain ⟨n, rfl⟩ : ∃ n', n = n' + 1 := ⟨n - 1, by omega⟩
    have : i = 20 := by omega
    subst this
    exact br_t (by decide) (h _ c0)
  | succ e ih =>
    intro i n hN2 hi hn c0
    obtain ⟨n, rfl⟩ : ∃ n', n = n' + 1 := ⟨n - 1, by omega⟩
    have iS := bt_ix80 (q := 20 * a0 + i) (by omega)
    have iD := bt_ix80 (q := 20 * a + i) (by omega)
    have eS : 20 * nI a0 + nI i = nI (20 * a0 + i) := by rw [bt_20m, nI_add]
    have eD : 20 * nI a + nI i = nI (20 * a + i) := by rw [bt_20m, nI_add]
    refine br_f (nI_ge (b := 20) (by omega) (by decide)) ?_
    rw [eS, eD, iS.2.2.2.2.2.1, iD.2.2.2.2.2.1]
    exact ⟨iS.2.2.2.2.1, iD.2.2.2.2.1, nm_e (nm_r (nI_1 _) (ih (i + 1) n _ (by omega) (by omega) (bt_cp_s c0 (len := 20) (by omega) hd rfl)))⟩
theorem yy_ct2 {post : SY → Prop} {a0 a : Nat} (h0 : a0 < 4) (ha : a < 4) (ne : a0 ≠ a)
    (h : ∀ hd2 ps2 la2 : Nat → Int32, bt_cp hd hd2 (4 * a0) (4 * a) 4 → bt_cp ps ps2 (4 * a0) (4 * a) 4 → bt_cp la la2 (4 * a0) (4 * a) 4 → ∃ n, wY_copyTable_75 post (nI a0) (nI a) ls es tt se fr n 0 st nm pa ve sz sm it dr th sY tY dl dy dm vc ms me cr hd2 hN ps2 la2 ey tn tm sn sc fn fc) :
    ∀ (e i n : Nat) (hd2 ps2 la2 : Nat → Int32), i + e = 4 → e < n → bt_cp hd hd2 (4 * a0) (4 * a) i → bt_cp ps ps2 (4 * a0) (4 * a) i → bt_cp la la2 (4 * a0) (4 * a) i → wY_copyTable_2 post (nI a0) (nI a) ls es tt se fr n (nI i) st nm pa ve sz sm it dr th sY tY dl dy dm vc ms me cr hd2 hN ps2 la2 ey tn tm sn sc fn fc := by
  have hdj : 4 * a0 + 4 ≤ 4 * a ∨ 4 * a + 4 ≤ 4 * a0 := by rcases Nat.lt_or_gt_of_ne ne with z | z <;> omega
  intro e
  induction e with
  | zero =>
    intro i n hd2 ps2 la2 hi hn c0 c1 c2
    obtain ⟨n, rfl⟩ : ∃ n', n = n' + 1 := ⟨n - 1, by omega⟩
    have : i = 4 := by omega
    subst this
    exact br_t (by decide) (h _ _ _ c0 c1 c2)
  | succ e ih =>
    intro i n hd2 ps2 la2 hi hn c0 c1 c2
    obtain ⟨n, rfl⟩ : ∃ n', n = n' + 1 := ⟨n - 1, by omega⟩
    have iS := bt_ix16 (q := 4 * a0 + i) (by omega)
    have iD := bt_ix16 (q := 4 * a + i) (by omega)
    have eS : 4 * nI a0 + nI i = nI (4 * a0 + i) := by rw [bt_4m, nI_add]
    have eD : 4 * nI a + nI i = nI (4 * a + i) := by rw [bt_4m, nI_add]
    refine br_f (nI_ge (b := 4) (by omega) (by decide)) ?_
    rw [eS, eD, iS.2.2.2.2.2.1, iD.2.2.2.2.2.1]
    exact ⟨iS.2.2.2.2.1, iD.2.2.2.2.1, nm_e ⟨iS.2.2.2.2.1, iD.2.2.2.2.1, nm_e ⟨iS.2.2.2.2.1, iD.2.2.2.2.1, nm_e (nm_r (nI_1 _) (ih (i + 1) n _ _ _ (by omega) (by omega) (bt_cp_s c0 (len := 4) (by omega) hdj rfl) (bt_cp_s c1 (len := 4) (by omega) hdj rfl) (bt_cp_s c2 (len := 4) (by omega) hdj rfl)))⟩⟩⟩
theorem yy_copyTable {post : SY → Prop} {a0 a : Nat} (h0 : a0 < 4) (ha : a < 4) (ne : a0 ≠ a)
    (h : ∀ hd2 ps2 la2 hN2 : Nat → Int32, bt_cp hd hd2 (4 * a0) (4 * a) 4 → bt_cp ps ps2 (4 * a0) (4 * a) 4 → bt_cp la la2 (4 * a0) (4 * a) 4 → bt_cp hN hN2 (20 * a0) (20 * a) 20 → post (ls, es, tt, se, fr, st, nm, pa, ve, sz, sm, it, dr, th, sY, tY, dl, dy, dm, vc, ms, me, cr, hd2, hN2, ps2, la2, ey, tn, tm, sn, sc, fn, fc)) : wpY_copyTable post (ls, es, tt, se, fr, st, nm, pa, ve, sz, sm, it, dr, th, sY, tY, dl, dy, dm, vc, ms, me, cr, hd, hN, ps, la, ey, tn, tm, sn, sc, fn, fc) (nI a0) (nI a) :=
  ⟨5, yy_ct2 h0 ha ne (fun hd2 ps2 la2 h1 h2 h3 => ⟨21, yy_ct75 h0 ha ne (fun hN2 h4 => h hd2 ps2 la2 hN2 h1 h2 h3 h4) 20 0 21 hN rfl (by omega) bt_cp_0⟩) 4 0 5 hd ps la rfl (by omega) bt_cp_0 bt_cp_0 bt_cp_0⟩
theorem yy_f201 {post : Int32 → SY → Prop} {a0 a : Nat} (h0 : a0 < 4) (ha : a < 4) (ne : a0 ≠ a)
    (h : ∀ dy2 dm2 : Nat → Int32, bt_cp dy dy2 (7 * a0) (7 * a) 7 → bt_cp dm dm2 (7 * a0) (7 * a) 7 → post (nI a) (ls, es, tt, se, fr, st, nm, pa, ve, sz, sm, it, dr, th, sY, tY, dl, dy2, dm2, vc, ms, me, cr, hd, hN, ps, la, ey, tn, tm, sn, sc, fn, fc)) :
    ∀ (e i n : Nat) (dy2 dm2 : Nat → Int32), i + e = 7 → e < n → bt_cp dy dy2 (7 * a0) (7 * a) i → bt_cp dm dm2 (7 * a0) (7 * a) i → wY_fork_201 post (nI a0) (nI a) ls es tt se fr n (nI i) st nm pa ve sz sm it dr th sY tY dl dy2 dm2 vc ms me cr hd hN ps la ey tn tm sn sc fn fc := by
  have hd : 7 * a0 + 7 ≤ 7 * a ∨ 7 * a + 7 ≤ 7 * a0 := by rcases Nat.lt_or_gt_of_ne ne with z | z <;> omega
  intro e
  induction e with
  | zero =>
    intro i n dy2 dm2 hi hn c0 c1
    obtain ⟨n, rfl⟩ : ∃ n', n = n' + 1 := ⟨n - 1, by omega⟩
    have : i = 7 := by omega
    subst this
    exact br_t (by decide) (h _ _ c0 c1)
  | succ e ih =>
    intro i n dy2 dm2 hi hn c0 c1
    obtain ⟨n, rfl⟩ : ∃ n', n = n' + 1 := ⟨n - 1, by omega⟩
    have iS := bt_ix28 (q := 7 * a0 + i) (by omega)
    have iD := bt_ix28 (q := 7 * a + i) (by omega)
    have eS : 7 * nI a0 + nI i = nI (7 * a0 + i) := by rw [bt_7m, nI_add]
    have eD : 7 * nI a + nI i = nI (7 * a + i) := by rw [bt_7m, nI_add]
    refine br_f (nI_ge (b := 7) (by omega) (by decide)) ?_
    rw [eS, eD, iS.2.2.2.2.2.1, iD.2.2.2.2.2.1]
    exact ⟨iS.2.2.2.2.1, iD.2.2.2.2.1, nm_e ⟨iS.2.2.2.2.1, iD.2.2.2.2.1, nm_e (nm_r (nI_1 _) (ih (i + 1) n _ _ (by omega) (by omega) (bt_cp_s c0 (len := 7) (by omega) hd rfl) (bt_cp_s c1 (len := 7) (by omega) hd rfl)))⟩⟩
/-- what becomes of Y's covered: copied, or emptied -/
def bt_cvY (f : Int32) (vc vc2 : Nat → Int32) (a0 a i : Nat) : Prop := (f = 0 → bt_cp vc vc2 (6 * a0) (6 * a) i) ∧ (¬ f = 0 → (∀ k, k < i → vc2 (6 * a + k) = -1) ∧ ∀ x, (x < 6 * a ∨ 6 * a + i ≤ x) → vc2 x = vc x)
theorem yy_cs3 {post : SY → Prop} {a0 a : Nat} {f : Int32} (h0 : a0 < 4) (ha : a < 4) (ne : a0 ≠ a)
    (h : ∀ vc2 ms2 : Nat → Int32, bt_cvY f vc vc2 a0 a 6 → bt_cp ms ms2 (6 * a0) (6 * a) 6 → ∃ n, wY_copySpace_75 post (nI a0) (nI a) ls es tt se fr n 0 st nm pa ve sz sm it dr th sY tY dl dy dm vc2 ms2 me cr hd hN ps la ey tn tm sn sc fn fc) :
    ∀ (e i n : Nat) (vc2 ms2 : Nat → Int32), i + e = 6 → e < n → bt_cvY f vc vc2 a0 a i → bt_cp ms ms2 (6 * a0) (6 * a) i → wY_copySpace_3 post (nI a0) (nI a) f ls es tt se fr n (nI i) st nm pa ve sz sm it dr th sY tY dl dy dm vc2 ms2 me cr hd hN ps la ey tn tm sn sc fn fc := by
  have hd : 6 * a0 + 6 ≤ 6 * a ∨ 6 * a + 6 ≤ 6 * a0 := by rcases Nat.lt_or_gt_of_ne ne with z | z <;> omega
  intro e
  induction e with
  | zero =>
    intro i n vc2 ms2 hi hn c0 c1
    obtain ⟨n, rfl⟩ : ∃ n', n = n' + 1 := ⟨n - 1, by omega⟩
    have : i = 6 := by omega
    subst this
    exact br_t (by decide) (h _ _ c0 c1)
  | succ e ih =>
    intro i n vc2 ms2 hi hn c0 c1
    obtain ⟨n, rfl⟩ : ∃ n', n = n' + 1 := ⟨n - 1, by omega⟩
    have iS := bt_ix24 (q := 6 * a0 + i) (by omega)
    have iD := bt_ix24 (q := 6 * a + i) (by omega)
    have eS : 6 * nI a0 + nI i = nI (6 * a0 + i) := by rw [bt_6m, nI_add]
    have eD : 6 * nI a + nI i = nI (6 * a + i) := by rw [bt_6m, nI_add]
    refine br_f (nI_ge (b := 6) (by omega) (by decide)) ?_
    rw [eS, eD, iS.2.2.2.2.2.1]
    by_cases z : f = 0
    · refine br_t z ⟨iS.2.2.2.2.1, iD.2.2.2.2.1, nm_e ?_⟩
      rw [eS, eD, iS.2.2.2.2.2.1, iD.2.2.2.2.2.1]
      exact ⟨iS.2.2.2.2.1, iD.2.2.2.2.1, nm_e (nm_r (nI_1 _) (ih (i + 1) n _ _ (by omega) (by omega) ⟨fun _ => bt_cp_s (c0.1 z) (len := 6) (by omega) hd rfl, fun y => absurd z y⟩ (bt_cp_s c1 (len := 6) (by omega) hd rfl)))⟩
    · refine br_f z ⟨iD.2.2.2.2.1, nm_e ?_⟩
      rw [eS, eD, iS.2.2.2.2.2.1, iD.2.2.2.2.2.1]
      refine ⟨iS.2.2.2.2.1, iD.2.2.2.2.1, nm_e (nm_r (nI_1 _) (ih (i + 1) n _ _ (by omega) (by omega) ⟨fun y => absurd y z, fun _ => ⟨fun k hk => ?_, fun x hx => ?_⟩⟩ (bt_cp_s c1 (len := 6) (by omega) hd rfl)))⟩
      · by_cases w : k = i
        · rw [w, pk_us]
        · rw [pk_un (by omega)]; exact (c0.2 z).1 k (by omega)
      · rw [pk_un (by omega)]; exact (c0.2 z).2 x (by omega)
theorem bt_cvY_0 {f : Int32} {vc : Nat → Int32} {a0 a : Nat} : bt_cvY f vc vc a0 a 0 := ⟨fun _ => bt_cp_0, fun _ => ⟨fun k hk => by omega, fun x _ => rfl⟩⟩
theorem yy_copySpace {post : SY → Prop} {a0 a : Nat} {f : Int32} (h0 : a0 < 4) (ha : a < 4) (ne : a0 ≠ a) (hBcr : ∀ i, bt_B (cr i))
    (h : ∀ vc2 ms2 me2 cr2 : Nat → Int32, bt_cvY f vc vc2 a0 a 6 → bt_cp ms ms2 (6 * a0) (6 * a) 6 → bt_cp me me2 (30 * a0) (30 * a) 30 → bt_cp cr cr2 (30 * a0) (30 * a) 30 → post (ls, es, tt, se, fr, st, nm, pa, ve, sz, sm, it, dr, th, sY, tY, dl, dy, dm, vc2, ms2, me2, cr2, hd, hN, ps, la, ey, tn, tm, sn, sc, fn, fc)) : wpY_copySpace post (ls, es, tt, se, fr, st, nm, pa, ve, sz, sm, it, dr, th, sY, tY, dl, dy, dm, vc, ms, me, cr, hd, hN, ps, la, ey, tn, tm, sn, sc, fn, fc) (nI a0) (nI a) f :=
  ⟨7, yy_cs3 h0 ha ne (fun vc2 ms2 h1 h2 => ⟨31, yy_cs75 h0 ha ne hBcr (fun me2 cr2 h3 h4 => h vc2 ms2 me2 cr2 h1 h2 h3 h4) 30 0 31 me cr rfl (by omega) bt_cp_0 bt_cp_0⟩) 6 0 7 vc ms rfl (by omega) bt_cvY_0 bt_cp_0⟩
theorem xx_clear_l {post : SX → Prop} {a : Nat} (ha : a < 4) (h : ∀ cc2 : Nat → Int32, (∀ k, k < 6 → cc2 (6 * a + k) = 0) → (∀ x, (x < 6 * a ∨ 6 * a + 6 ≤ x) → cc2 x = cc x) → post (ls, tl, ec, kc, st, dr, nm, pa, ve, sz, it, sm, hl, th, sp, tb, dl, dn, cc2, cv, mn, mc, oc, on, om, op, tr, el, cm)) :
    ∀ (e i n : Nat) (cc2 : Nat → Int32), i + e = 6 → e < n → (∀ k, k < i → cc2 (6 * a + k) = 0) → (∀ x, (x < 6 * a ∨ 6 * a + 6 ≤ x) → cc2 x = cc x) → wX_clearSpace_2 post (nI a) ls tl ec kc n (nI i) st dr nm pa ve sz it sm hl th sp tb dl dn cc2 cv mn mc oc on om op tr el cm := by
  intro e
  induction e with
  | zero =>
    intro i n cc2 hi hn h1 h2
    obtain ⟨n, rfl⟩ : ∃ n', n = n' + 1 := ⟨n - 1, by omega⟩
    have : i = 6 := by omega
    subst this
    exact br_t (by decide) (h _ h1 h2)
  | succ e ih =>
    intro i n cc2 hi hn h1 h2
    obtain ⟨n, rfl⟩ : ∃ n', n = n' + 1 := ⟨n - 1, by omega⟩
    have iD := bt_ix24 (q := 6 * a + i) (by omega)
    have eD : nI a * 6 + nI i = nI (6 * a + i) := by rw [bt_m6, nI_add]
    refine br_f (nI_ge (b := 6) (by omega) (by decide)) ?_
    rw [eD, iD.2.2.2.2.2.1]
    refine ⟨iD.2.2.2.2.1, nm_e (nm_r (nI_1 _) (ih (i + 1) n _ (by omega) (by omega) (fun k hk => ?_) (fun x hx => ?_)))⟩
    · by_cases w : k = i
      · rw [w, pk_us]
      · rw [pk_un (by omega)]; exact h1 k (by omega)
    · rw [pk_un (by omega)]; exact h2 x hx
theorem xx_clear {post : SX → Prop} {a : Nat} (ha : a < 4) (h : ∀ cc2 : Nat → Int32, (∀ k, k < 6 → cc2 (6 * a + k) = 0) → (∀ x, (x < 6 * a ∨ 6 * a + 6 ≤ x) → cc2 x = cc x) → post (ls, tl, ec, kc, st, dr, nm, pa, ve, sz, it, sm, hl, th, sp, tb, dl, dn, cc2, cv, mn, mc, oc, on, om, op, tr, el, cm)) : wpX_clearSpace post (ls, tl, ec, kc, st, dr, nm, pa, ve, sz, it, sm, hl, th, sp, tb, dl, dn, cc, cv, mn, mc, oc, on, om, op, tr, el, cm) (nI a) :=
  ⟨7, xx_clear_l ha h 6 0 7 cc rfl (by omega) (fun k hk => by omega) (fun _ _ => rfl)⟩
theorem xx_fp_l {post : Int32 → Prop} : ∀ (e i n : Nat), i + e = 4 → e < n → post (bt_o (bt_f (fun p => th p = 0) i e)) → wX_freeProcess_2 post ls tl ec kc st dr nm pa ve sz it sm hl th sp tb dl dn cc cv mn mc oc on om op tr el cm n (nI i) := by
  intro e
  induction e with
  | zero =>
    intro i n hi hn h
    obtain ⟨n, rfl⟩ : ∃ n', n = n' + 1 := ⟨n - 1, by omega⟩
    have : i = 4 := by omega
    subst this
    exact br_t (by decide) h
  | succ e ih =>
    intro i n hi hn h
    obtain ⟨n, rfl⟩ : ∃ n', n = n' + 1 := ⟨n - 1, by omega⟩
    have ix := bt_ix4 (q := i) (by omega)
    simp only [bt_f] at h
    refine br_f ix.2.2.2.1 ⟨ix.2.2.2.2.1, ?_⟩
    rw [ix.2.2.2.2.2.1]
    refine br_c (fun z => ?_) (fun z => nm_r (nI_1 _) (ih (i + 1) n (by omega) (by omega) ?_))
    · rw [if_pos z] at h; exact h
    · rw [if_neg z] at h; exact h
theorem xx_fp {post : Int32 → Prop} (h : post (bt_o (bt_f (fun p => th p = 0) 0 4))) : wpX_freeProcess post (ls, tl, ec, kc, st, dr, nm, pa, ve, sz, it, sm, hl, th, sp, tb, dl, dn, cc, cv, mn, mc, oc, on, om, op, tr, el, cm) := ⟨5, xx_fp_l 4 0 5 rfl (by omega) h⟩
theorem yy_f22 {post : Int32 → SY → Prop} {x1 x2 x3 : Int32} : ∀ (e i n : Nat), i + e = 4 → e < n → (∀ c, bt_f (fun p => th p = 0) i e = some c → wY_fork_44 post x1 x2 x3 (nI c) ls es tt se fr st nm pa ve sz sm it dr th sY tY dl dy dm vc ms me cr hd hN ps la ey tn tm sn sc fn fc) → (bt_f (fun p => th p = 0) i e = none → wY_fork_44 post x1 x2 x3 4 ls es tt se fr st nm pa ve sz sm it dr th sY tY dl dy dm vc ms me cr hd hN ps la ey tn tm sn sc fn fc) → wY_fork_22 post x1 x2 x3 ls es tt se fr st nm pa ve sz sm it dr th sY tY dl dy dm vc ms me cr hd hN ps la ey tn tm sn sc fn fc n (nI i) := by
  intro e
  induction e with
  | zero =>
    intro i n hi hn h1 h2
    obtain ⟨n, rfl⟩ : ∃ n', n = n' + 1 := ⟨n - 1, by omega⟩
    have : i = 4 := by omega
    subst this
    exact br_t (by decide) (h2 rfl)
  | succ e ih =>
    intro i n hi hn h1 h2
    obtain ⟨n, rfl⟩ : ∃ n', n = n' + 1 := ⟨n - 1, by omega⟩
    have ix := bt_ix4 (q := i) (by omega)
    simp only [bt_f] at h1 h2
    refine br_f ix.2.2.2.1 ⟨ix.2.2.2.2.1, ?_⟩
    rw [ix.2.2.2.2.2.1]
    refine br_c (fun z => h1 i (if_pos z)) (fun z => nm_r (nI_1 _) ?_)
    rw [if_neg z] at h1 h2
    exact ih (i + 1) n (by omega) (by omega) h1 h2
theorem xx_unS_b {post : Int32 → Prop} {M : Nat} (hM : M < 16) (hex : ∃ j, j < 4 ∧ M.testBit j = false) (h : ∀ a, a < 4 → M.testBit a = false → post (nI a)) :
    ∀ (e n a : Nat), e ≤ 4 → e < n → a < 4 → ((∃ j, e ≤ j ∧ j < 4 ∧ M.testBit j = false) → M.testBit a = false) → wX_unusedOf__processSpace_37 post (nI M) ls tl ec kc st dr nm pa ve sz it sm hl th sp tb dl dn cc cv mn mc oc on om op tr el cm n (nI a) (nI e - 1) := by
  intro e
  induction e with
  | zero =>
    intro n a he hn ha hj
    obtain ⟨n, rfl⟩ : ∃ n', n = n' + 1 := ⟨n - 1, by omega⟩
    obtain ⟨j, j4, jf⟩ := hex
    exact br_t (by decide) (h a ha (hj ⟨j, by omega, j4, jf⟩))
  | succ e ih =>
    intro n a he hn ha hj
    obtain ⟨n, rfl⟩ : ∃ n', n = n' + 1 := ⟨n - 1, by omega⟩
    have ie := bt_ix4 (q := e) (by omega)
    rw [nI_pred]
    refine br_f ie.1 (ek_if (bt_and M hM e (by omega)) (fun z => nm_r (bt_am1 _) (ih n e (by omega) (by omega) (by omega) (fun _ => z))) (fun z => nm_r (bt_am1 _) (ih n a (by omega) (by omega) ha (fun ⟨j, j1, j2, j3⟩ => ?_))))
    by_cases w : j = e
    · rw [w] at j3; exact absurd j3 z
    · exact hj ⟨j, by omega, j2, j3⟩
theorem xx_unS_a {post : Int32 → Prop} (hs : ∀ p, p < 4 → sp p = nI (s p) ∧ s p < 4) (hex : ∃ j, j < 4 ∧ ∀ q, q < 4 → th q ≠ 0 → s q ≠ j) (h : ∀ a, a < 4 → (∀ q, q < 4 → th q ≠ 0 → s q ≠ a) → post (nI a)) :
    ∀ (e i n M : Nat), i + e = 4 → e < n → M < 16 → (∀ j, j < 4 → (M.testBit j = true ↔ ∃ q, q < i ∧ th q ≠ 0 ∧ s q = j)) → wX_unusedOf__processSpace_4 post ls tl ec kc st dr nm pa ve sz it sm hl th sp tb dl dn cc cv mn mc oc on om op tr el cm n (nI M) (nI i) := by
  intro e
  induction e with
  | zero =>
    intro i n M hi hn hM hj
    obtain ⟨n, rfl⟩ : ∃ n', n = n' + 1 := ⟨n - 1, by omega⟩
    have : i = 4 := by omega
    subst this
    obtain ⟨j, j4, jn⟩ := hex
    have tf : ∀ a, a < 4 → (M.testBit a = false ↔ ∀ q, q < 4 → th q ≠ 0 → s q ≠ a) := by
      intro a ha
      constructor
      · intro z q hq tq e
        have := (hj a ha).mpr ⟨q, hq, tq, e⟩
        rw [z] at this; cases this
      · intro z
        cases y : M.testBit a with
        | false => rfl
        | true =>
          obtain ⟨q, hq, tq, e⟩ := (hj a ha).mp y
          exact absurd e (z q hq tq)
    exact br_t (by decide) ⟨5, xx_unS_b hM ⟨j, j4, (tf j j4).mpr jn⟩ (fun a ha z => h a ha ((tf a ha).mp z)) 4 5 0 (by omega) (by omega) (by omega) (fun ⟨j, j1, j2, _⟩ => by omega)⟩
  | succ e ih =>
    intro i n M hi hn hM hj
    obtain ⟨n, rfl⟩ : ∃ n', n = n' + 1 := ⟨n - 1, by omega⟩
    have ix := bt_ix4 (q := i) (by omega)
    obtain ⟨es0, hs4⟩ := hs i (by omega)
    refine br_f ix.2.2.2.1 ⟨ix.2.2.2.2.1, ?_⟩
    rw [ix.2.2.2.2.2.1, es0]
    obtain ⟨o1, o2, o3⟩ := bt_or M hM (s i) hs4
    refine br_c (fun z => nm_r (nI_1 _) (ih (i + 1) n M (by omega) (by omega) hM (fun j j4 => (hj j j4).trans ⟨fun ⟨q, a, b, c⟩ => ⟨q, by omega, b, c⟩, fun ⟨q, a, b, c⟩ => ⟨q, ?_, b, c⟩⟩))) (fun z => ⟨ix.2.2.2.2.1, nm_r o1 (nm_r (nI_1 _) (ih (i + 1) n _ (by omega) (by omega) o2 (fun j j4 => ?_)))⟩)
    · have : q ≠ i := fun y => by subst y; exact b z
      omega
    · rw [o3 j j4, Bool.or_eq_true, hj j j4, decide_eq_true_iff]
      constructor
      · rintro (⟨q, a, b, c⟩ | y)
        · exact ⟨q, by omega, b, c⟩
        · exact ⟨i, by omega, z, y⟩
      · rintro ⟨q, a, b, c⟩
        by_cases y : q = i
        · subst y; exact Or.inr c
        · exact Or.inl ⟨q, by omega, b, c⟩
theorem xx_unS {post : Int32 → Prop} (hs : ∀ p, p < 4 → sp p = nI (s p) ∧ s p < 4) (hex : ∃ j, j < 4 ∧ ∀ q, q < 4 → th q ≠ 0 → s q ≠ j) (h : ∀ a, a < 4 → (∀ q, q < 4 → th q ≠ 0 → s q ≠ a) → post (nI a)) : wpX_unusedOf__processSpace post (ls, tl, ec, kc, st, dr, nm, pa, ve, sz, it, sm, hl, th, sp, tb, dl, dn, cc, cv, mn, mc, oc, on, om, op, tr, el, cm) :=
  ⟨5, xx_unS_a hs hex h 4 0 5 0 rfl (by omega) (by omega) (fun j j4 => ⟨fun z => (by rw [Nat.zero_testBit] at z; cases z), fun ⟨q, a, _⟩ => (by omega)⟩)⟩
theorem xx_unT_b {post : Int32 → Prop} {M : Nat} (hM : M < 16) (hex : ∃ j, j < 4 ∧ M.testBit j = false) (h : ∀ a, a < 4 → M.testBit a = false → post (nI a)) :
    ∀ (e n a : Nat), e ≤ 4 → e < n → a < 4 → ((∃ j, e ≤ j ∧ j < 4 ∧ M.testBit j = false) → M.testBit a = false) → wX_unusedOf__processTable_37 post (nI M) ls tl ec kc st dr nm pa ve sz it sm hl th sp tb dl dn cc cv mn mc oc on om op tr el cm n (nI a) (nI e - 1) := by
  intro e
  induction e with
  | zero =>
    intro n a he hn ha hj
    obtain ⟨n, rfl⟩ : ∃ n', n = n' + 1 := ⟨n - 1, by omega⟩
    obtain ⟨j, j4, jf⟩ := hex
    exact br_t (by decide) (h a ha (hj ⟨j, by omega, j4, jf⟩))
  | succ e ih =>
    intro n a he hn ha hj
    obtain ⟨n, rfl⟩ : ∃ n', n = n' + 1 := ⟨n - 1, by omega⟩
    have ie := bt_ix4 (q := e) (by omega)
    rw [nI_pred]
    refine br_f ie.1 (ek_if (bt_and M hM e (by omega)) (fun z => nm_r (bt_am1 _) (ih n e (by omega) (by omega) (by omega) (fun _ => z))) (fun z => nm_r (bt_am1 _) (ih n a (by omega) (by omega) ha (fun ⟨j, j1, j2, j3⟩ => ?_))))
    by_cases w : j = e
    · rw [w] at j3; exact absurd j3 z
    · exact hj ⟨j, by omega, j2, j3⟩
theorem xx_unT_a {post : Int32 → Prop} (hs : ∀ p, p < 4 → tb p = nI (s p) ∧ s p < 4) (hex : ∃ j, j < 4 ∧ ∀ q, q < 4 → th q ≠ 0 → s q ≠ j) (h : ∀ a, a < 4 → (∀ q, q < 4 → th q ≠ 0 → s q ≠ a) → post (nI a)) :
    ∀ (e i n M : Nat), i + e = 4 → e < n → M < 16 → (∀ j, j < 4 → (M.testBit j = true ↔ ∃ q, q < i ∧ th q ≠ 0 ∧ s q = j)) → wX_unusedOf__processTable_4 post ls tl ec kc st dr nm pa ve sz it sm hl th sp tb dl dn cc cv mn mc oc on om op tr el cm n (nI M) (nI i) := by
  intro e
  induction e with
  | zero =>
    intro i n M hi hn hM hj
    obtain ⟨n, rfl⟩ : ∃ n', n = n' + 1 := ⟨n - 1, by omega⟩
    have : i = 4 := by omega
    subst this
    obtain ⟨j, j4, jn⟩ := hex
    have tf : ∀ a, a < 4 → (M.testBit a = false ↔ ∀ q, q < 4 → th q ≠ 0 → s q ≠ a) := by
      intro a ha
      constructor
      · intro z q hq tq e
        have := (hj a ha).mpr ⟨q, hq, tq, e⟩
        rw [z] at this; cases this
      · intro z
        cases y : M.testBit a with
        | false => rfl
        | true =>
          obtain ⟨q, hq, tq, e⟩ := (hj a ha).mp y
          exact absurd e (z q hq tq)
    exact br_t (by decide) ⟨5, xx_unT_b hM ⟨j, j4, (tf j j4).mpr jn⟩ (fun a ha z => h a ha ((tf a ha).mp z)) 4 5 0 (by omega) (by omega) (by omega) (fun ⟨j, j1, j2, _⟩ => by omega)⟩
  | succ e ih =>
    intro i n M hi hn hM hj
    obtain ⟨n, rfl⟩ : ∃ n', n = n' + 1 := ⟨n - 1, by omega⟩
    have ix := bt_ix4 (q := i) (by omega)
    obtain ⟨es0, hs4⟩ := hs i (by omega)
    refine br_f ix.2.2.2.1 ⟨ix.2.2.2.2.1, ?_⟩
    rw [ix.2.2.2.2.2.1, es0]
    obtain ⟨o1, o2, o3⟩ := bt_or M hM (s i) hs4
    refine br_c (fun z => nm_r (nI_1 _) (ih (i + 1) n M (by omega) (by omega) hM (fun j j4 => (hj j j4).trans ⟨fun ⟨q, a, b, c⟩ => ⟨q, by omega, b, c⟩, fun ⟨q, a, b, c⟩ => ⟨q, ?_, b, c⟩⟩))) (fun z => ⟨ix.2.2.2.2.1, nm_r o1 (nm_r (nI_1 _) (ih (i + 1) n _ (by omega) (by omega) o2 (fun j j4 => ?_)))⟩)
    · have : q ≠ i := fun y => by subst y; exact b z
      omega
    · rw [o3 j j4, Bool.or_eq_true, hj j j4, decide_eq_true_iff]
      constructor
      · rintro (⟨q, a, b, c⟩ | y)
        · exact ⟨q, by omega, b, c⟩
        · exact ⟨i, by omega, z, y⟩
      · rintro ⟨q, a, b, c⟩
        by_cases y : q = i
        · subst y; exact Or.inr c
        · exact Or.inl ⟨q, by omega, b, c⟩
theorem xx_unT {post : Int32 → Prop} (hs : ∀ p, p < 4 → tb p = nI (s p) ∧ s p < 4) (hex : ∃ j, j < 4 ∧ ∀ q, q < 4 → th q ≠ 0 → s q ≠ j) (h : ∀ a, a < 4 → (∀ q, q < 4 → th q ≠ 0 → s q ≠ a) → post (nI a)) : wpX_unusedOf__processTable post (ls, tl, ec, kc, st, dr, nm, pa, ve, sz, it, sm, hl, th, sp, tb, dl, dn, cc, cv, mn, mc, oc, on, om, op, tr, el, cm) :=
  ⟨5, xx_unT_a hs hex h 4 0 5 0 rfl (by omega) (by omega) (fun j j4 => ⟨fun z => (by rw [Nat.zero_testBit] at z; cases z), fun ⟨q, a, _⟩ => (by omega)⟩)⟩
theorem yy_spaceU {post : Int32 → Prop} {b : Nat} (hb : b < 4) (hs : ∀ p, p < 4 → sY p = nI (s' p) ∧ s' p < 4) (h1 : (∃ q, q < 4 ∧ th q ≠ 0 ∧ s' q = b) → post 1) (h0 : (∀ q, q < 4 → th q ≠ 0 → s' q ≠ b) → post 0) : wpY_spaceUsed post (ls, es, tt, se, fr, st, nm, pa, ve, sz, sm, it, dr, th, sY, tY, dl, dy, dm, vc, ms, me, cr, hd, hN, ps, la, ey, tn, tm, sn, sc, fn, fc) (nI b) := by
  have key : ∀ (e i n : Nat), i + e = 4 → e < n → (∀ q, q < i → th q ≠ 0 → s' q ≠ b) → wY_spaceUsed_2 post (nI b) ls es tt se fr st nm pa ve sz sm it dr th sY tY dl dy dm vc ms me cr hd hN ps la ey tn tm sn sc fn fc n (nI i) := by
    intro e
    induction e with
    | zero =>
      intro i n hi hn no
      obtain ⟨n, rfl⟩ : ∃ n', n = n' + 1 := ⟨n - 1, by omega⟩
      have : i = 4 := by omega
      subst this
      exact br_t (by decide) (h0 no)
    | succ e ih =>
      intro i n hi hn no
      obtain ⟨n, rfl⟩ : ∃ n', n = n' + 1 := ⟨n - 1, by omega⟩
      have ix := bt_ix4 (q := i) (by omega)
      obtain ⟨es0, hs4⟩ := hs i (by omega)
      refine br_f ix.2.2.2.1 ⟨ix.2.2.2.2.1, ?_⟩
      rw [ix.2.2.2.2.2.1, es0]
      refine br_c (fun z => nm_r (nI_1 _) (ih (i + 1) n (by omega) (by omega) (fun q hq tq => ?_))) (fun z => ⟨ix.2.2.2.2.1, ek_if (nI_eq (by omega) (by omega)) (fun y => h1 ⟨i, by omega, z, y⟩) (fun y => nm_r (nI_1 _) (ih (i + 1) n (by omega) (by omega) (fun q hq tq => ?_)))⟩)
      · have : q ≠ i := fun y => by subst y; exact tq z
        exact no q (by omega) tq
      · by_cases w : q = i
        · rw [w]; exact y
        · exact no q (by omega) tq
  exact ⟨5, key 4 0 5 rfl (by omega) (fun q hq => by omega)⟩
theorem yy_tableU {post : Int32 → Prop} {b : Nat} (hb : b < 4) (hs : ∀ p, p < 4 → tY p = nI (s' p) ∧ s' p < 4) (h1 : (∃ q, q < 4 ∧ th q ≠ 0 ∧ s' q = b) → post 1) (h0 : (∀ q, q < 4 → th q ≠ 0 → s' q ≠ b) → post 0) : wpY_tableUsed post (ls, es, tt, se, fr, st, nm, pa, ve, sz, sm, it, dr, th, sY, tY, dl, dy, dm, vc, ms, me, cr, hd, hN, ps, la, ey, tn, tm, sn, sc, fn, fc) (nI b) := by
  have key : ∀ (e i n : Nat), i + e = 4 → e < n → (∀ q, q < i → th q ≠ 0 → s' q ≠ b) → wY_tableUsed_2 post (nI b) ls es tt se fr st nm pa ve sz sm it dr th sY tY dl dy dm vc ms me cr hd hN ps la ey tn tm sn sc fn fc n (nI i) := by
    intro e
    induction e with
    | zero =>
      intro i n hi hn no
      obtain ⟨n, rfl⟩ : ∃ n', n = n' + 1 := ⟨n - 1, by omega⟩
      have : i = 4 := by omega
      subst this
      exact br_t (by decide) (h0 no)
    | succ e ih =>
      intro i n hi hn no
      obtain ⟨n, rfl⟩ : ∃ n', n = n' + 1 := ⟨n - 1, by omega⟩
      have ix := bt_ix4 (q := i) (by omega)
      obtain ⟨es0, hs4⟩ := hs i (by omega)
      refine br_f ix.2.2.2.1 ⟨ix.2.2.2.2.1, ?_⟩
      rw [ix.2.2.2.2.2.1, es0]
      refine br_c (fun z => nm_r (nI_1 _) (ih (i + 1) n (by omega) (by omega) (fun q hq tq => ?_))) (fun z => ⟨ix.2.2.2.2.1, ek_if (nI_eq (by omega) (by omega)) (fun y => h1 ⟨i, by omega, z, y⟩) (fun y => nm_r (nI_1 _) (ih (i + 1) n (by omega) (by omega) (fun q hq tq => ?_)))⟩)
      · have : q ≠ i := fun y => by subst y; exact tq z
        exact no q (by omega) tq
      · by_cases w : q = i
        · rw [w]; exact y
        · exact no q (by omega) tq
  exact ⟨5, key 4 0 5 rfl (by omega) (fun q hq => by omega)⟩
end
