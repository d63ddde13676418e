theorem bt_e1 {m : Nat} (h : m < 2 ^ 31) : nI m = 1 ↔ m = 1 := nI_eq (b := 1) h (by decide)
theorem bt_le5 {m : Nat} (h : m < 2 ^ 31) : nI m ≤ 5 ↔ m ≤ 5 := nI_leI (b := 5) h (by decide)
section
variable {ls tl ec kc : Int32} {st dr nm pa ve sz it sm hl th sp tb dl dn cc cv mn mc oc on om op tr el cm : Nat → Int32} {es tt se fr : Int32} {sY tY dy dm vc ms me cr hd hN ps la ey tn tm sn sc fn fc : Nat → Int32} {s s' t t' : Nat → Nat}
def bt_vc (mc : Nat → Int32) (a : Nat) : Option Nat → Nat → Int32
  | none, _ => 0
  | some k, m => mc (5 * (6 * a + k) + m)
set_option maxHeartbeats 1000000 in
theorem cov_R {p ov N ord : Nat} {b : Int32} {g : Nat → Int32} (R : bt_R st dr nm pa sz th dl sp tb dn cc cv mn mc oc on om op sY tY dy dm vc ms me cr hd hN ps la s s' t t') (hp : p < 4) (tp : th p ≠ 0) (Nov : bt_N st (nI ov)) (ho : ord ≤ 2) (N1 : 1 ≤ N) (N5 : N ≤ 5) (hgN : ∀ m, m < N → bt_N st (g m)) (hb : bt_B b) (hg : ∀ m, m < N → cm m = g m) :
    ((∀ post : Int32 → SX → Prop, post (-6) (ls, tl, ec, nI N, st, dr, nm, pa, ve, sz, it, sm, hl, th, sp, tb, dl, dn, cc, cv, mn, mc, oc, on, om, op, tr, el, cm) → wpX_coverWithComing post (ls, tl, ec, nI N, st, dr, nm, pa, ve, sz, it, sm, hl, th, sp, tb, dl, dn, cc, cv, mn, mc, oc, on, om, op, tr, el, cm) (nI (s p)) (nI ov) (nI ord) b) ∧
     (∀ (post : Int32 → SY → Prop) (es tt se : Int32) (ey tn tm sn sc fn fc : Nat → Int32), (∀ m, m < N → fn m = g m) → (∀ (se2 : Int32) (sn2 sc2 : Nat → Int32), post (-6) (ls, es, tt, se2, nI N, st, nm, pa, ve, sz, sm, it, dr, th, sY, tY, dl, dy, dm, vc, ms, me, cr, hd, hN, ps, la, ey, tn, tm, sn2, sc2, fn, fc)) → wpY_cover post (ls, es, tt, se, nI N, st, nm, pa, ve, sz, sm, it, dr, th, sY, tY, dl, dy, dm, vc, ms, me, cr, hd, hN, ps, la, ey, tn, tm, sn, sc, fn, fc) (nI p) (nI ov) (nI ord) b)) ∨
    ∃ (r : Int32) (Q : (Nat → Int32) → (Nat → Int32) → (Nat → Int32) → (Nat → Int32) → (Nat → Int32) → Prop),
      (∀ post : Int32 → SX → Prop, (∀ st2 hl2 cc2 cv2 mn2 mc2 : Nat → Int32, Q st2 cc2 cv2 mn2 mc2 → post r (ls, tl, ec, nI N, st2, dr, nm, pa, ve, sz, it, sm, hl2, th, sp, tb, dl, dn, cc2, cv2, mn2, mc2, oc, on, om, op, tr, el, cm)) → wpX_coverWithComing post (ls, tl, ec, nI N, st, dr, nm, pa, ve, sz, it, sm, hl, th, sp, tb, dl, dn, cc, cv, mn, mc, oc, on, om, op, tr, el, cm) (nI (s p)) (nI ov) (nI ord) b) ∧
      (∀ st2 cc2 cv2 mn2 mc2 : Nat → Int32, Q st2 cc2 cv2 mn2 mc2 → ∀ (post : Int32 → SY → Prop) (es tt se : Int32) (ey tn tm sn sc fn fc : Nat → Int32), (∀ m, m < N → fn m = g m) →
        (∀ (se2 : Int32) (sn2 sc2 vc2 ms2 me2 cr2 : Nat → Int32), bt_R st2 dr nm pa sz th dl sp tb dn cc2 cv2 mn2 mc2 oc on om op sY tY dy dm vc2 ms2 me2 cr2 hd hN ps la s s' t t' → post r (ls, es, tt, se2, nI N, st2, nm, pa, ve, sz, sm, it, dr, th, sY, tY, dl, dy, dm, vc2, ms2, me2, cr2, hd, hN, ps, la, ey, tn, tm, sn2, sc2, fn, fc)) → wpY_cover post (ls, es, tt, se, nI N, st, nm, pa, ve, sz, sm, it, dr, th, sY, tY, dl, dy, dm, vc, ms, me, cr, hd, hN, ps, la, ey, tn, tm, sn, sc, fn, fc) (nI p) (nI ov) (nI ord) b) := by
  have J := R
  obtain ⟨RA, B1, B2, RS, RT, RP⟩ := J
  obtain ⟨hT, hC, hD⟩ := RP p hp tp
  obtain ⟨sa, ha, sb, hb4⟩ := RS.1 p hp
  have ip := bt_ix4 hp
  obtain ⟨c, c1, c5, hv, hNs, hv0, hS⟩ := bt_view hC Nov
  have hof : ∀ k', bt_cf cc cv (s p) (nI ov) = some k' → k' < 6 := fun k' hk' => (hS k' hk').1
  -- how many are kept
  have hK : ∃ K, (ord = 0 → K = 0) ∧ (¬ ord = 0 → K = c) := by
    by_cases z : ord = 0
    · exact ⟨0, fun _ => rfl, fun y => absurd z y⟩
    · exact ⟨c, fun y => absurd y z, fun _ => rfl⟩
  obtain ⟨K, K0, Kc⟩ := hK
  have Kle : K ≤ c := by
    by_cases z : ord = 0
    · have := K0 z
      omega
    · have := Kc z
      omega
  -- X up to the place
  have X22 : ∀ post : Int32 → SX → Prop, wX_coverWithComing_22 post (nI (s p)) (nI ov) (nI ord) b (bt_of (6 * s p) (bt_cf cc cv (s p) (nI ov))) (nI K) ls tl ec (nI N) st dr nm pa ve sz it sm hl th sp tb dl dn cc cv mn mc oc on om op tr el cm → wpX_coverWithComing post (ls, tl, ec, nI N, st, dr, nm, pa, ve, sz, it, sm, hl, th, sp, tb, dl, dn, cc, cv, mn, mc, oc, on, om, op, tr, el, cm) (nI (s p)) (nI ov) (nI ord) b := by
    intro post h
    unfold wpX_coverWithComing
    refine xx_coverOf ha (bt_Cc hC) (ek_if (bt_e0 (by omega)) (fun z => ?_) (fun z => xx_seenCount ha hof ?_))
    · have := K0 z
      subst this
      exact h
    · rw [hv, ← Kc z]; exact h
  -- Y up to the place
  have Y26 : ∀ (post : Int32 → SY → Prop) (es tt se : Int32) (ey tn tm sn sc fn fc : Nat → Int32),
      (∀ sn2 sc2 : Nat → Int32, (∀ m, m < c → sn2 m = bt_vg mn (s p) (nI ov) (bt_cf cc cv (s p) (nI ov)) m ∧ sc2 m = bt_vc mc (s p) (bt_cf cc cv (s p) (nI ov)) m) →
        ((0 ≤ bt_of (6 * s' p) (bt_cf cc cv (s p) (nI ov)) → wY_cover_59 post (nI ov) (nI ord) b (nI (K + N)) (bt_of (6 * s' p) (bt_cf cc cv (s p) (nI ov))) ls es tt (nI c) (nI N) st nm pa ve sz sm it dr th sY tY dl dy dm vc ms me cr hd hN ps la ey tn tm sn2 sc2 fn fc) ∧
         (¬ 0 ≤ bt_of (6 * s' p) (bt_cf cc cv (s p) (nI ov)) → wY_cover_59 post (nI ov) (nI ord) b (nI (K + N)) (bt_of (6 * s' p) (bt_uf cc (s p))) ls es tt (nI c) (nI N) st nm pa ve sz sm it dr th sY tY dl dy dm vc ms me cr hd hN ps la ey tn tm sn2 sc2 fn fc))) →
      wpY_cover post (ls, es, tt, se, nI N, st, nm, pa, ve, sz, sm, it, dr, th, sY, tY, dl, dy, dm, vc, ms, me, cr, hd, hN, ps, la, ey, tn, tm, sn, sc, fn, fc) (nI p) (nI ov) (nI ord) b := by
    intro post es tt se ey tn tm sn sc fn fc h
    unfold wpY_cover
    refine yy_look hp hb4 sb B2 hC Nov rfl hv c1 c5 (fun sn2 sc2 g1 g2 g3 => ?_)
    have hh := h sn2 sc2 (fun m hm => ⟨g1 m hm, by
      cases oo : bt_cf cc cv (s p) (nI ov) with
      | none =>
        have e1 := hv0 oo
        have : m = 0 := by omega
        rw [this]; exact g2 oo
      | some k => exact g3 k oo m hm⟩)
    have c26 : wY_cover_26 post (nI p) (nI ov) (nI ord) b (nI (K + N)) ls es tt (nI c) (nI N) st nm pa ve sz sm it dr th sY tY dl dy dm vc ms me cr hd hN ps la ey tn tm sn2 sc2 fn fc := by
      refine ⟨ip.2.2.2.2.1, ?_⟩
      rw [ip.2.2.2.2.2.1, sb]
      exact yy_coverOf hb4 hC (bt_Nx Nov) (br_c (fun z => hh.1 z) (fun z => ⟨ip.2.2.2.2.1, yy_free hb4 hC (hh.2 z)⟩))
    refine ek_if (bt_e0 (by omega)) (fun z => ?_) (fun z => ?_)
    · have := K0 z
      subst this
      have e : nI (0 + N) = nI N := congrArg nI (by omega)
      rw [e] at c26
      exact c26
    · have := Kc z
      subst this
      have e : nI (K + N) = nI N + nI K := by rw [nI_add, Nat.add_comm]
      rw [e] at c26
      exact c26
  by_cases full : K + N ≤ 5
  · -- the layout
    have hFE : ∃ F E, (ord = 0 → K = 0 ∧ F = 0) ∧ (ord = 1 → F = 0 ∧ E = N ∧ K = c) ∧ (ord = 2 → F = K ∧ E = 0 ∧ K = c) ∧ F + N ≤ 5 ∧ ∀ m, m < K + N → (∃ m', m' < N ∧ m = F + m') ∨ (∃ m', m' < K ∧ m = E + m') := by
      have m3 : ord = 0 ∨ ord = 1 ∨ ord = 2 := by omega
      rcases m3 with rfl | rfl | rfl
      · have k0 := K0 rfl
        exact ⟨0, 0, fun _ => ⟨k0, rfl⟩, fun z => by omega, fun z => by omega, by omega, fun m hm => Or.inl ⟨m, by omega, by omega⟩⟩
      · have k0 := Kc (by omega)
        refine ⟨0, N, fun z => by omega, fun _ => ⟨rfl, rfl, k0⟩, fun z => by omega, by omega, fun m hm => ?_⟩
        rcases Nat.lt_or_ge m N with z | z
        · exact Or.inl ⟨m, z, by omega⟩
        · exact Or.inr ⟨m - N, by omega, by omega⟩
      · have k0 := Kc (by omega)
        refine ⟨K, 0, fun z => by omega, fun z => by omega, fun _ => ⟨rfl, rfl, k0⟩, by omega, fun m hm => ?_⟩
        rcases Nat.lt_or_ge m K with z | z
        · exact Or.inr ⟨m, z, by omega⟩
        · exact Or.inl ⟨m - K, by omega, by omega⟩
    obtain ⟨F, E, o0, o1, o2, hF, hcov⟩ := hFE
    -- members of a layout are nodes
    have lyN : ∀ (f h : Nat → Int32) (base : Nat), bt_ly f h base F E N K g (bt_vg mn (s p) (nI ov) (bt_cf cc cv (s p) (nI ov))) (bt_vc mc (s p) (bt_cf cc cv (s p) (nI ov))) b → ∀ m, m < K + N → bt_N st (f (base + m)) := by
      intro f h base ly m hm
      rcases hcov m hm with ⟨m', h1, rfl⟩ | ⟨m', h1, rfl⟩
      · rw [(ly.1 m' h1).1]; exact hgN m' h1
      · rw [(ly.2 m' h1).1]; exact hNs m' (by omega)
    -- X from the place on
    have X77 : ∀ (k : Nat) (cv1 mn1 mc1 : Nat → Int32), k < 6 → cv1 (6 * s p + k) = nI ov → (∀ x, x ≠ 6 * s p + k → cv1 x = cv x) → (∀ m, m < K → mn1 (5 * (6 * s p + k) + m) = bt_vg mn (s p) (nI ov) (bt_cf cc cv (s p) (nI ov)) m ∧ mc1 (5 * (6 * s p + k) + m) = bt_vc mc (s p) (bt_cf cc cv (s p) (nI ov)) m) →
        (∀ x, (x < 5 * (6 * s p + k) ∨ 5 * (6 * s p + k) + 5 ≤ x) → mn1 x = mn x ∧ mc1 x = mc x) → (∀ x, bt_B (mc1 x)) → ∀ post : Int32 → SX → Prop,
        (∀ st2 hl2 cc2 cv2 mn2 mc2 : Nat → Int32, bt_QX st th dl dn cc cv mn mc oc on s t (6 * s p + k) N K F E (nI ov) g (bt_vg mn (s p) (nI ov) (bt_cf cc cv (s p) (nI ov))) (bt_vc mc (s p) (bt_cf cc cv (s p) (nI ov))) b st2 cc2 cv2 mn2 mc2 → post (nI (K + N)) (ls, tl, ec, nI N, st2, dr, nm, pa, ve, sz, it, sm, hl2, th, sp, tb, dl, dn, cc2, cv2, mn2, mc2, oc, on, om, op, tr, el, cm)) →
        wX_coverWithComing_77 post (nI ord) b (nI (6 * s p + k)) (nI K) ls tl ec (nI N) st dr nm pa ve sz it sm hl th sp tb dl dn cc cv1 mn1 mc1 oc on om op tr el cm := by
      intro k cv1 mn1 mc1 hk q1 q2 q3 q4 q5 post h
      have ot : ∀ mn2 mc2 : Nat → Int32, (∀ x, (x < 5 * (6 * s p + k) ∨ 5 * (6 * s p + k) + 5 ≤ x) → mn2 x = mn1 x ∧ mc2 x = mc1 x) → ∀ x, (x < 5 * (6 * s p + k) ∨ 5 * (6 * s p + k) + 5 ≤ x) → mn2 x = mn x ∧ mc2 x = mc x := by
        intro mn2 mc2 a2 x hx
        rw [(a2 x hx).1, (a2 x hx).2]; exact q4 x hx
      refine xc_77 (s := s) (t := t) (F := F) (E := E) (by omega) ho full N1 hb q5 hg q3 o0 (fun z => ⟨(o1 z).1, (o1 z).2.1⟩) (fun z => ⟨(o2 z).1, (o2 z).2.1⟩) (fun mn2 mc2 ly a2 => ?_) (fun st2 hl2 mn2 mc2 ly a2 a3 sw => h st2 hl2 _ cv1 mn2 mc2 ⟨rfl, q1, q2, ly, ot mn2 mc2 a2, a3, sw⟩)
      refine bt_wf_C (p := p) (k := k) (bt_wf_R R) hk (fun x hx => ⟨pk_un hx, q2 x hx⟩) (fun x hx => (ot mn2 mc2 a2 x hx).1) (Or.inr ⟨K + N, by omega, full, pk_us, ?_, fun m hm => ?_⟩)
      · obtain ⟨n, hn, en, _⟩ := Nov
        exact ⟨n, hn, q1.trans en⟩
      · obtain ⟨n, hn, en, _⟩ := lyN mn2 mc2 _ ly m hm
        exact ⟨n, hn, en⟩
    -- Y from the place on
    have VB : ∀ m, m < K → bt_B (bt_vc mc (s p) (bt_cf cc cv (s p) (nI ov)) m) := by
      intro m hm
      cases bt_cf cc cv (s p) (nI ov) with
      | none => exact bt_B0
      | some k => exact B1 _
    have Y59 : ∀ (k : Nat), k < 6 → ∀ st2 cc2 cv2 mn2 mc2 : Nat → Int32, bt_QX st th dl dn cc cv mn mc oc on s t (6 * s p + k) N K F E (nI ov) g (bt_vg mn (s p) (nI ov) (bt_cf cc cv (s p) (nI ov))) (bt_vc mc (s p) (bt_cf cc cv (s p) (nI ov))) b st2 cc2 cv2 mn2 mc2 →
        ∀ (post : Int32 → SY → Prop) (es tt : Int32) (ey tn tm sn sc fn fc : Nat → Int32), (∀ m, m < N → fn m = g m) → (∀ m, m < c → sn m = bt_vg mn (s p) (nI ov) (bt_cf cc cv (s p) (nI ov)) m ∧ sc m = bt_vc mc (s p) (bt_cf cc cv (s p) (nI ov)) m) →
        (∀ (se2 : Int32) (sn2 sc2 vc2 ms2 me2 cr2 : Nat → Int32), bt_R st2 dr nm pa sz th dl sp tb dn cc2 cv2 mn2 mc2 oc on om op sY tY dy dm vc2 ms2 me2 cr2 hd hN ps la s s' t t' → post (nI (K + N)) (ls, es, tt, se2, nI N, st2, nm, pa, ve, sz, sm, it, dr, th, sY, tY, dl, dy, dm, vc2, ms2, me2, cr2, hd, hN, ps, la, ey, tn, tm, sn2, sc2, fn, fc)) →
        wY_cover_59 post (nI ov) (nI ord) b (nI (K + N)) (nI (6 * s' p + k)) ls es tt (nI c) (nI N) st nm pa ve sz sm it dr th sY tY dl dy dm vc ms me cr hd hN ps la ey tn tm sn sc fn fc := by
      intro k hk st2 cc2 cv2 mn2 mc2 q post es tt ey tn tm sn sc fn fc hfn hsn h
      obtain ⟨rfl, q1, q2, ly, q4, q5, sw⟩ := q
      refine yc_59 (F := F) (E := E) (by omega) ho full hb B2 hfn c1 c5 (fun m hm => hsn m (by omega)) VB o0 o1 o2 (fun me2 cr2 ly2 a2 a3 => ?_)
      have R' : bt_R st dr nm pa sz th dl sp tb dn (upd cc (6 * s p + k) (nI (K + N))) cv2 mn2 mc2 oc on om op sY tY dy dm (upd vc (6 * s' p + k) (nI ov)) (upd ms (6 * s' p + k) (nI (K + N))) me2 cr2 hd hN ps la s s' t t' := by
        refine bt_upC (p := p) (k := k) R hp hk tp (fun x hx => ⟨pk_un hx, q2 x hx⟩) q4 (fun x hx => ⟨pk_un hx, pk_un hx⟩) a2 q5 a3 (Or.inr ⟨K + N, by omega, full, pk_us, pk_us, ?_, ?_, fun m hm => ⟨?_, ?_, lyN mn2 mc2 _ ly m hm⟩⟩)
        · rw [pk_us]; exact q1
        · rw [q1]; exact Nov
        · rcases hcov m hm with ⟨m', h1, rfl⟩ | ⟨m', h1, rfl⟩
          · rw [(ly.1 m' h1).1, (ly2.1 m' h1).1]
          · rw [(ly.2 m' h1).1, (ly2.2 m' h1).1]
        · rcases hcov m hm with ⟨m', h1, rfl⟩ | ⟨m', h1, rfl⟩
          · rw [(ly.1 m' h1).2, (ly2.1 m' h1).2]
          · rw [(ly.2 m' h1).2, (ly2.2 m' h1).2]
      unfold wY_cover_236
      refine yy_sw R' (fun st3 sw3 => ?_)
      have := bt_sw_u sw3 sw
      subst this
      exact h _ _ _ _ _ _ _ (bt_upSw R' sw)
    have le5 : nI K + nI N ≤ 5 := by rw [nI_add]; exact (bt_le5 (by omega)).mpr full
    have n5 : ¬ (5 : Int32) < nI (K + N) := Int32.not_lt.mpr ((bt_le5 (by omega)).mpr full)
    cases oo : bt_cf cc cv (s p) (nI ov) with
    | some k =>
      obtain ⟨k6, w1, w2, w3, w4, w5⟩ := hS k oo
      have jk := bt_ix24 (q := 6 * s p + k) (by omega)
      have jk' := bt_ix24 (q := 6 * s' p + k) (by omega)
      have X77k := X77 k cv mn mc k6 w3 (fun _ _ => rfl)
      have Y59k := Y59 k k6
      rw [oo] at X22 Y26 X77k Y59k
      refine Or.inr ⟨nI (K + N), _, fun post h => X22 post (br_t le5 (br_f jk.2.2.2.2.2.2 (X77k (fun m hm => ⟨rfl, rfl⟩) (fun _ _ => ⟨rfl, rfl⟩) B1 post h))), fun st2 cc2 cv2 mn2 mc2 q post es tt se ey tn tm sn sc fn fc hfn h => Y26 post es tt se ey tn tm sn sc fn fc (fun sn2 sc2 hsn => br_t jk'.2.1 (Y59k st2 cc2 cv2 mn2 mc2 q post es tt ey tn tm sn2 sc2 fn fc hfn hsn h))⟩
    | none =>
      have c0 := hv0 oo
      cases uu : bt_uf cc (s p) with
      | none =>
        rw [oo] at X22 Y26
        rw [uu] at Y26
        refine Or.inl ⟨fun post h => X22 post (br_t le5 (br_t rfl (xx_unused ha ?_))), fun post es tt se ey tn tm sn sc fn fc hfn h => Y26 post es tt se ey tn tm sn sc fn fc (fun sn2 sc2 hsn => br_f (show ¬ (0 : Int32) ≤ -1 by decide) (br_f n5 (br_f (show ¬ (0 : Int32) ≤ -1 by decide) (h _ _ _))))⟩
        rw [uu]; exact br_t rfl h
      | some k =>
        obtain ⟨_, k6, _, _⟩ := bt_f_s 6 0 uu
        have k6' : k < 6 := by omega
        have jk := bt_ix24 (q := 6 * s p + k) (by omega)
        have jk' := bt_ix24 (q := 6 * s' p + k) (by omega)
        have X77k := X77 k (upd cv (6 * s p + k) (nI ov)) (upd mn (5 * (6 * s p + k) + 0) (nI ov)) (upd mc (5 * (6 * s p + k) + 0) 0) k6' pk_us (fun x hx => pk_un hx)
        have Y59k := Y59 k k6'
        rw [oo] at X22 Y26 X77k Y59k
        rw [uu] at Y26
        refine Or.inr ⟨nI (K + N), _, fun post h => X22 post (br_t le5 (br_t rfl (xx_unused ha ?_))), fun st2 cc2 cv2 mn2 mc2 q post es tt se ey tn tm sn sc fn fc hfn h => Y26 post es tt se ey tn tm sn sc fn fc (fun sn2 sc2 hsn => br_f (show ¬ (0 : Int32) ≤ -1 by decide) (Y59k st2 cc2 cv2 mn2 mc2 q post es tt ey tn tm sn2 sc2 fn fc hfn hsn h))⟩
        rw [uu]
        refine br_f jk.2.2.2.2.2.2 ⟨jk.2.2.2.2.1, nm_r (show _ = upd cv (6 * s p + k) (nI ov) from congrArg (fun z => upd cv z (nI ov)) jk.2.2.2.2.2.1) (xx_put (m := 0) (by omega) (by omega) bt_B0 (X77k (fun m hm => ?_) (fun x hx => ?_) (bt_Bu B1 bt_B0) post h))⟩
        · have : m = 0 := by omega
          subst this
          rw [pk_us, pk_us]; exact ⟨rfl, rfl⟩
        · rw [pk_un (by omega), pk_un (by omega)]; exact ⟨rfl, rfl⟩
  · have g5 : ¬ nI K + nI N ≤ 5 := by rw [nI_add]; exact fun z => full ((bt_le5 (by omega)).mp z)
    have n5 : (5 : Int32) < nI (K + N) := nI_lt (a := 5) (by omega) (by omega)
    exact Or.inl ⟨fun post h => X22 post (br_f g5 h), fun post es tt se ey tn tm sn sc fn fc hfn h => Y26 post es tt se ey tn tm sn sc fn fc (fun sn2 sc2 hsn => br_c (fun _ => br_t n5 (h _ _ _)) (fun _ => br_t n5 (h _ _ _)))⟩
end
