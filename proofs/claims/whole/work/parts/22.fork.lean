/-- what X has done for the new process's space -/
def bt_pX (mode : Nat) (th : Nat → Int32) (s : Nat → Nat) (a0 a : Nat) (cc cv mn mc cc2 cv2 mn2 mc2 : Nat → Int32) : Prop :=
  (mode = 0 ∧ a = a0 ∧ cc2 = cc ∧ cv2 = cv ∧ mn2 = mn ∧ mc2 = mc) ∨
  (mode = 1 ∧ a < 4 ∧ (∀ q, q < 4 → th q ≠ 0 → s q ≠ a) ∧ bt_cp cc cc2 (6 * a0) (6 * a) 6 ∧ bt_cp cv cv2 (6 * a0) (6 * a) 6 ∧ bt_cp mn mn2 (30 * a0) (30 * a) 30 ∧ bt_cp mc mc2 (30 * a0) (30 * a) 30) ∨
  (mode = 2 ∧ a < 4 ∧ (∀ q, q < 4 → th q ≠ 0 → s q ≠ a) ∧ (∀ k, k < 6 → cc2 (6 * a + k) = 0) ∧ (∀ x, (x < 6 * a ∨ 6 * a + 6 ≤ x) → cc2 x = cc x) ∧ cv2 = cv ∧ mn2 = mn ∧ mc2 = mc)
def bt_pY (mode : Nat) (th : Nat → Int32) (s : Nat → Nat) (a0 a : Nat) (vc ms me cr vc2 ms2 me2 cr2 : Nat → Int32) : Prop :=
  (mode = 0 ∧ a = a0 ∧ vc2 = vc ∧ ms2 = ms ∧ me2 = me ∧ cr2 = cr) ∨
  (1 ≤ mode ∧ a < 4 ∧ (∀ q, q < 4 → th q ≠ 0 → s q ≠ a) ∧ (mode = 1 → bt_cp vc vc2 (6 * a0) (6 * a) 6) ∧ (mode = 2 → (∀ k, k < 6 → vc2 (6 * a + k) = -1) ∧ ∀ x, (x < 6 * a ∨ 6 * a + 6 ≤ x) → vc2 x = vc x) ∧
    bt_cp ms ms2 (6 * a0) (6 * a) 6 ∧ bt_cp me me2 (30 * a0) (30 * a) 30 ∧ bt_cp cr cr2 (30 * a0) (30 * a) 30)
def bt_qX (sh : Int32) (th : Nat → Int32) (t : Nat → Nat) (a0 a : Nat) (oc on om op oc2 on2 om2 op2 : Nat → Int32) : Prop :=
  (¬ sh = 0 ∧ a = a0 ∧ oc2 = oc ∧ on2 = on ∧ om2 = om ∧ op2 = op) ∨
  (sh = 0 ∧ a < 4 ∧ (∀ q, q < 4 → th q ≠ 0 → t q ≠ a) ∧ bt_cp oc oc2 (4 * a0) (4 * a) 4 ∧ bt_cp om om2 (4 * a0) (4 * a) 4 ∧ bt_cp op op2 (4 * a0) (4 * a) 4 ∧ bt_cp on on2 (20 * a0) (20 * a) 20)
section
variable {ls tl ec kc : Int32} {st dr nm pa ve sz it sm hl th sp tb dl dn cc cv mn mc oc on om op tr el cm : Nat → Int32} {es tt se fr : Int32} {sY tY dy dm vc ms me cr hd hN ps la ey tn tm sn sc fn fc : Nat → Int32} {s s' t t' : Nat → Nat}
variable {cc2 cv2 mn2 mc2 vc2 ms2 me2 cr2 oc2 on2 om2 op2 hd2 hN2 ps2 la2 dn2 dy2 dm2 : Nat → Int32}
theorem bt_C_cp {a0 a b0 b : Nat} (hC : ∀ k, k < 6 → bt_C st cc cv mn mc vc ms me cr (6 * a0 + k) (6 * b0 + k))
    (x1 : bt_cp cc cc2 (6 * a0) (6 * a) 6) (x2 : bt_cp cv cv2 (6 * a0) (6 * a) 6) (x3 : bt_cp mn mn2 (30 * a0) (30 * a) 30) (x4 : bt_cp mc mc2 (30 * a0) (30 * a) 30)
    (y1 : bt_cp vc vc2 (6 * b0) (6 * b) 6) (y2 : bt_cp ms ms2 (6 * b0) (6 * b) 6) (y3 : bt_cp me me2 (30 * b0) (30 * b) 30) (y4 : bt_cp cr cr2 (30 * b0) (30 * b) 30) :
    ∀ k, k < 6 → bt_C st cc2 cv2 mn2 mc2 vc2 ms2 me2 cr2 (6 * a + k) (6 * b + k) := by
  intro k hk
  have ix : ∀ a m, 5 * (6 * a + k) + m = 30 * a + (5 * k + m) := fun a m => by omega
  rcases hC k hk with ⟨u, w⟩ | ⟨c, c1, c5, u1, u2, u3, u4, u5⟩
  · exact Or.inl ⟨(x1.1 k hk).trans u, (y1.1 k hk).trans w⟩
  · refine Or.inr ⟨c, c1, c5, (x1.1 k hk).trans u1, (y2.1 k hk).trans u2, ?_, ?_, fun m hm => ?_⟩
    · rw [x2.1 k hk, y1.1 k hk]; exact u3
    · rw [x2.1 k hk]; exact u4
    · have h30 : 5 * k + m < 30 := by omega
      have := u5 m hm
      rw [ix, ix] at this
      rw [ix, ix, x3.1 _ h30, x4.1 _ h30, y3.1 _ h30, y4.1 _ h30]
      exact this
theorem bt_D_cp {a0 a b0 b : Nat} (hD : ∀ k, k < 4 → bt_D st dr sz oc on om op hd hN ps la (4 * a0 + k) (4 * b0 + k))
    (x1 : bt_cp oc oc2 (4 * a0) (4 * a) 4) (x2 : bt_cp om om2 (4 * a0) (4 * a) 4) (x3 : bt_cp op op2 (4 * a0) (4 * a) 4) (x4 : bt_cp on on2 (20 * a0) (20 * a) 20)
    (y1 : bt_cp hd hd2 (4 * b0) (4 * b) 4) (y2 : bt_cp ps ps2 (4 * b0) (4 * b) 4) (y3 : bt_cp la la2 (4 * b0) (4 * b) 4) (y4 : bt_cp hN hN2 (20 * b0) (20 * b) 20) :
    ∀ k, k < 4 → bt_D st dr sz oc2 on2 om2 op2 hd2 hN2 ps2 la2 (4 * a + k) (4 * b + k) := by
  intro k hk
  have ix : ∀ a m, 5 * (4 * a + k) + m = 20 * a + (5 * k + m) := fun a m => by omega
  have ix0 : ∀ a, 5 * (4 * a + k) = 20 * a + 5 * k := fun a => by omega
  obtain ⟨c, c5, u1, u2, u3, u4⟩ := hD k hk
  refine ⟨c, c5, (x1.1 k hk).trans u1, (y1.1 k hk).trans u2, fun m hm => ?_, fun h => ?_⟩
  · have h20 : 5 * k + m < 20 := by omega
    have := u3 m hm
    rw [ix, ix] at this
    rw [ix, ix, x4.1 _ h20, y4.1 _ h20]; exact this
  · obtain ⟨n, hn, en, kd⟩ := u4 h
    rw [ix0] at en
    refine ⟨n, hn, ?_, ?_⟩
    · rw [ix0, x4.1 (5 * k) (by omega)]; exact en
    · rw [x2.1 k hk, x3.1 k hk, y2.1 k hk, y3.1 k hk]; exact kd
/-- the new process's space, both sides -/
theorem bt_spc {p a b mode : Nat} (R : bt_R st dr nm pa sz th dl sp tb dn cc cv mn mc oc on om op sY tY dy dm vc ms me cr hd hN ps la s s' t t') (hp : p < 4) (tp : th p ≠ 0) (hX : bt_pX mode th s (s p) a cc cv mn mc cc2 cv2 mn2 mc2) (hY : bt_pY mode th s' (s' p) b vc ms me cr vc2 ms2 me2 cr2) :
    bt_R st dr nm pa sz th dl sp tb dn cc2 cv2 mn2 mc2 oc on om op sY tY dy dm vc2 ms2 me2 cr2 hd hN ps la s s' t t' ∧ a < 4 ∧ b < 4 ∧ (∀ q, q < 4 → th q ≠ 0 → (s q = a ↔ s' q = b)) ∧ ∀ k, k < 6 → bt_C st cc2 cv2 mn2 mc2 vc2 ms2 me2 cr2 (6 * a + k) (6 * b + k) := by
  have J := R
  obtain ⟨RA, B1, B2, RS, RT, RP⟩ := J
  have hC := (RP p hp tp).2.1
  rcases hX with ⟨m0, rfl, rfl, rfl, rfl, rfl⟩ | ⟨m1, a4, fa, x1, x2, x3, x4⟩ | ⟨m2, a4, fa, x1, x2, rfl, rfl, rfl⟩
  · rcases hY with ⟨_, rfl, rfl, rfl, rfl, rfl⟩ | ⟨m1, _⟩
    · exact ⟨R, (RS.1 p hp).2.1, (RS.1 p hp).2.2.2, fun q hq tq => RS.2 q p hq hp tq tp, hC⟩
    · omega
  · rcases hY with ⟨m0, _⟩ | ⟨_, b4, fb, y1, _, y2, y3, y4⟩
    · omega
    · refine ⟨?_, a4, b4, fun q hq tq => ⟨fun e => absurd e (fa q hq tq), fun e => absurd e (fb q hq tq)⟩, bt_C_cp hC x1 x2 x3 x4 (y1 m1) y2 y3 y4⟩
      exact bt_frC (a := a) (b := b) R fa fb (fun x hx => ⟨x1.2 x hx, x2.2 x hx⟩) (fun x hx => ⟨x3.2 x hx, x4.2 x hx⟩) (fun x hx => ⟨(y1 m1).2 x hx, y2.2 x hx⟩) (fun x hx => ⟨y3.2 x hx, y4.2 x hx⟩) (bt_cp_B x4 B1) (bt_cp_B y4 B2)
  · rcases hY with ⟨m0, _⟩ | ⟨_, b4, fb, _, y1, y2, y3, y4⟩
    · omega
    · refine ⟨?_, a4, b4, fun q hq tq => ⟨fun e => absurd e (fa q hq tq), fun e => absurd e (fb q hq tq)⟩, fun k hk => Or.inl ⟨x1 k hk, (y1 m2).1 k hk⟩⟩
      exact bt_frC (a := a) (b := b) R fa fb (fun x hx => ⟨x2 x hx, rfl⟩) (fun x hx => ⟨rfl, rfl⟩) (fun x hx => ⟨(y1 m2).2 x hx, y2.2 x hx⟩) (fun x hx => ⟨y3.2 x hx, y4.2 x hx⟩) B1 (bt_cp_B y4 B2)
theorem bt_tbl {p a b : Nat} {sh : Int32} (R : bt_R st dr nm pa sz th dl sp tb dn cc cv mn mc oc on om op sY tY dy dm vc ms me cr hd hN ps la s s' t t') (hp : p < 4) (tp : th p ≠ 0) (hX : bt_qX sh th t (t p) a oc on om op oc2 on2 om2 op2) (hY : bt_qX sh th t' (t' p) b hd hN ps la hd2 hN2 ps2 la2) :
    bt_R st dr nm pa sz th dl sp tb dn cc cv mn mc oc2 on2 om2 op2 sY tY dy dm vc ms me cr hd2 hN2 ps2 la2 s s' t t' ∧ a < 4 ∧ b < 4 ∧ (∀ q, q < 4 → th q ≠ 0 → (t q = a ↔ t' q = b)) ∧ ∀ k, k < 4 → bt_D st dr sz oc2 on2 om2 op2 hd2 hN2 ps2 la2 (4 * a + k) (4 * b + k) := by
  have J := R
  obtain ⟨RA, B1, B2, RS, RT, RP⟩ := J
  have hD := (RP p hp tp).2.2
  rcases hX with ⟨m0, rfl, rfl, rfl, rfl, rfl⟩ | ⟨m1, a4, fa, x1, x2, x3, x4⟩
  · rcases hY with ⟨_, rfl, rfl, rfl, rfl, rfl⟩ | ⟨m1, _⟩
    · exact ⟨R, (RT.1 p hp).2.1, (RT.1 p hp).2.2.2, fun q hq tq => RT.2 q p hq hp tq tp, hD⟩
    · exact absurd m1 m0
  · rcases hY with ⟨m0, _⟩ | ⟨_, b4, fb, y1, y2, y3, y4⟩
    · exact absurd m1 m0
    · refine ⟨?_, a4, b4, fun q hq tq => ⟨fun e => absurd e (fa q hq tq), fun e => absurd e (fb q hq tq)⟩, bt_D_cp hD x1 x2 x3 x4 y1 y2 y3 y4⟩
      exact bt_frD (a := a) (b := b) R fa fb (fun x hx => ⟨x1.2 x hx, x2.2 x hx, x3.2 x hx⟩) (fun x hx => x4.2 x hx) (fun x hx => ⟨y1.2 x hx, y2.2 x hx, y3.2 x hx⟩) (fun x hx => y4.2 x hx)
/-- the whole of fork on the relation -/
theorem bt_fork {p c a b a' b' mode : Nat} {sh : Int32} (R : bt_R st dr nm pa sz th dl sp tb dn cc cv mn mc oc on om op sY tY dy dm vc ms me cr hd hN ps la s s' t t') (hp : p < 4) (tp : th p ≠ 0) (hc : c < 4) (tc : th c = 0)
    (hX : bt_pX mode th s (s p) a cc cv mn mc cc2 cv2 mn2 mc2) (hY : bt_pY mode th s' (s' p) b vc ms me cr vc2 ms2 me2 cr2)
    (qX : bt_qX sh th t (t p) a' oc on om op oc2 on2 om2 op2) (qY : bt_qX sh th t' (t' p) b' hd hN ps la hd2 hN2 ps2 la2)
    (d1 : bt_cp dn dn2 (7 * p) (7 * c) 7) (d2 : bt_cp dy dy2 (7 * p) (7 * c) 7) (d3 : bt_cp dm dm2 (7 * p) (7 * c) 7) :
    bt_R st dr nm pa sz (upd th c 1) (upd dl c (dl p)) (upd sp c (nI a)) (upd tb c (nI a')) dn2 cc2 cv2 mn2 mc2 oc2 on2 om2 op2 (upd sY c (nI b)) (upd tY c (nI b')) dy2 dm2 vc2 ms2 me2 cr2 hd2 hN2 ps2 la2 (fun q => if q = c then a else s q) (fun q => if q = c then b else s' q) (fun q => if q = c then a' else t q) (fun q => if q = c then b' else t' q) := by
  obtain ⟨R1, a4, b4, sh1, hC⟩ := bt_spc R hp tp hX hY
  obtain ⟨R2, a4', b4', sh2, hD⟩ := bt_tbl R1 hp tp qX qY
  have hTp := (R2.2.2.2.2.2 p hp tp).1
  have pc : p ≠ c := fun e => by rw [e] at tp; exact tp tc
  obtain ⟨L, L1, L7, eL, z0, f⟩ := hTp
  have hT : bt_T st nm (upd dl c (dl p)) dn2 dy2 dm2 c := by
    refine ⟨L, L1, L7, by rw [pk_us]; exact eL, (d1.1 0 (by omega)).trans z0, fun i hi => ?_⟩
    rw [d1.1 i (by omega), d2.1 i (by omega), d3.1 i (by omega)]
    exact f i hi
  have R3 := bt_upT (p := c) R2 (dl2 := upd dl c (dl p)) (dn2 := dn2) (dy2 := dy2) (dm2 := dm2) (fun q hq => pk_un hq) (fun x hx => ⟨d1.2 x hx, d2.2 x hx, d3.2 x hx⟩) hT
  exact bt_add R3 hc tc a4 b4 a4' b4' sh1 sh2 hT hC hD
-- X's walk
theorem xf_124 {post : Int32 → SX → Prop} {p c a a' : Nat} (hp : p < 4) (hc : c < 4) (ne : p ≠ c)
    (h : ∀ dn2 : Nat → Int32, bt_cp dn dn2 (7 * p) (7 * c) 7 → post (nI c) (ls, tl, ec, kc, st, dr, nm, pa, ve, sz, it, sm, hl, upd th c 1, upd sp c (nI a), upd tb c (nI a'), upd dl c (dl p), dn2, cc, cv, mn, mc, oc, on, om, op, tr, el, cm)) : wX_fork_124 post (nI p) (nI c) (nI a) (nI a') ls tl ec kc st dr nm pa ve sz it sm hl th sp tb dl dn cc cv mn mc oc on om op tr el cm := by
  have ic := bt_ix4 hc
  have e := ic.2.2.2.2.2.1
  unfold wX_fork_124
  exact xx_copyDot hp hc ne (fun dn2 h1 => ⟨ic.2.2.2.2.1, nm_r (by rw [e]) ⟨ic.2.2.2.2.1, nm_r (by rw [e]) ⟨ic.2.2.2.2.1, nm_r (by rw [e, bt_n1]) (h dn2 h1)⟩⟩⟩)
theorem xf_108 {post : Int32 → SX → Prop} {p c a a' : Nat} {sh : Int32} (hp : p < 4) (hc : c < 4) (tp : th p ≠ 0) (ta : tb p = nI (t p)) (ht4 : t p < 4) (z1 : ¬ sh = 0 → a' = t p) (z0 : sh = 0 → a' < 4 ∧ ∀ q, q < 4 → th q ≠ 0 → t q ≠ a')
    (h : ∀ oc2 on2 om2 op2 : Nat → Int32, bt_qX sh th t (t p) a' oc on om op oc2 on2 om2 op2 → wX_fork_124 post (nI p) (nI c) (nI a) (nI a') ls tl ec kc st dr nm pa ve sz it sm hl th sp tb dl dn cc cv mn mc oc2 on2 om2 op2 tr el cm) : wX_fork_108 post (nI p) sh (nI c) (nI a) (nI a') ls tl ec kc st dr nm pa ve sz it sm hl th sp tb dl dn cc cv mn mc oc on om op tr el cm := by
  have ip := bt_ix4 hp
  refine br_c (fun z => ⟨ip.2.2.2.2.1, ?_⟩) (fun z => h _ _ _ _ (Or.inl ⟨z, z1 z, rfl, rfl, rfl, rfl⟩))
  rw [ip.2.2.2.2.2.1, ta]
  obtain ⟨a4, fr4⟩ := z0 z
  exact xx_copyTable ht4 a4 (fr4 p hp tp) (fun oc2 om2 op2 on2 h1 h2 h3 h4 => h oc2 on2 om2 op2 (Or.inr ⟨z, a4, fr4, h1, h2, h3, h4⟩))
theorem xf_78 {post : Int32 → SX → Prop} {p c a a' mode : Nat} {sh : Int32} (hp : p < 4) (hm : mode ≤ 2) (tp : th p ≠ 0) (sa : sp p = nI (s p)) (hs4 : s p < 4) (hB : ∀ i, bt_B (mc i)) (z1 : mode = 0 → a = s p) (z0 : mode ≠ 0 → a < 4 ∧ ∀ q, q < 4 → th q ≠ 0 → s q ≠ a)
    (h : ∀ cc2 cv2 mn2 mc2 : Nat → Int32, bt_pX mode th s (s p) a cc cv mn mc cc2 cv2 mn2 mc2 → wX_fork_108 post (nI p) sh (nI c) (nI a) (nI a') ls tl ec kc st dr nm pa ve sz it sm hl th sp tb dl dn cc2 cv2 mn2 mc2 oc on om op tr el cm) : wX_fork_78 post (nI p) (nI mode) sh (nI c) (nI a) (nI a') ls tl ec kc st dr nm pa ve sz it sm hl th sp tb dl dn cc cv mn mc oc on om op tr el cm := by
  have ip := bt_ix4 hp
  have m3 : mode = 0 ∨ mode = 1 ∨ mode = 2 := by omega
  rcases m3 with rfl | rfl | rfl
  · exact br_f (by decide) (br_f (by decide) (h _ _ _ _ (Or.inl ⟨rfl, z1 rfl, rfl, rfl, rfl, rfl⟩)))
  · obtain ⟨a4, fr4⟩ := z0 (by omega)
    refine br_t (by decide) ⟨ip.2.2.2.2.1, ?_⟩
    rw [ip.2.2.2.2.2.1, sa]
    exact xx_copySpace hs4 a4 (fr4 p hp tp) hB (fun cc2 cv2 mn2 mc2 h1 h2 h3 h4 => br_f (by decide) (h cc2 cv2 mn2 mc2 (Or.inr (Or.inl ⟨rfl, a4, fr4, h1, h2, h3, h4⟩))))
  · obtain ⟨a4, fr4⟩ := z0 (by omega)
    exact br_f (by decide) (br_t (by decide) (xx_clear a4 (fun cc2 h1 h2 => h cc2 cv mn mc (Or.inr (Or.inr ⟨rfl, a4, fr4, h1, h2, rfl, rfl, rfl⟩)))))
-- Y's walk
theorem yf_159 {post : Int32 → SY → Prop} {p c b b' : Nat} (hp : p < 4) (hc : c < 4) (ne : p ≠ c)
    (h : ∀ dy2 dm2 : Nat → Int32, bt_cp dy dy2 (7 * p) (7 * c) 7 → bt_cp dm dm2 (7 * p) (7 * c) 7 → post (nI c) (ls, es, tt, se, fr, st, nm, pa, ve, sz, sm, it, dr, upd th c 1, upd sY c (nI b), upd tY c (nI b'), upd dl c (dl p), dy2, dm2, vc, ms, me, cr, hd, hN, ps, la, ey, tn, tm, sn, sc, fn, fc)) : wY_fork_159 post (nI p) (nI c) (nI b) (nI b') ls es tt se fr st nm pa ve sz sm it dr th sY tY dl dy dm vc ms me cr hd hN ps la ey tn tm sn sc fn fc := by
  have ic := bt_ix4 hc
  have ip := bt_ix4 hp
  have e := ic.2.2.2.2.2.1
  have e' := ip.2.2.2.2.2.1
  exact ⟨ic.2.2.2.2.1, nm_r (by rw [e, bt_n1]) ⟨ic.2.2.2.2.1, nm_r (by rw [e]) ⟨ic.2.2.2.2.1, nm_r (by rw [e]) ⟨ip.2.2.2.2.1, ic.2.2.2.2.1, nm_r (by rw [e, e']) ⟨8, yy_f201 hp hc ne h 7 0 8 dy dm rfl (by omega) bt_cp_0 bt_cp_0⟩⟩⟩⟩⟩
theorem yf_143 {post : Int32 → SY → Prop} {p c b b' : Nat} {sh : Int32} (hp : p < 4) (tp : th p ≠ 0) (tb0 : tY p = nI (t' p)) (ht4 : t' p < 4) (z1 : ¬ sh = 0 → b' = t' p) (z0 : sh = 0 → b' < 4 ∧ ∀ q, q < 4 → th q ≠ 0 → t' q ≠ b')
    (h : ∀ hd2 hN2 ps2 la2 : Nat → Int32, bt_qX sh th t' (t' p) b' hd hN ps la hd2 hN2 ps2 la2 → wY_fork_159 post (nI p) (nI c) (nI b) (nI b') ls es tt se fr st nm pa ve sz sm it dr th sY tY dl dy dm vc ms me cr hd2 hN2 ps2 la2 ey tn tm sn sc fn fc) : wY_fork_143 post (nI p) sh (nI c) (nI b) (nI b') ls es tt se fr st nm pa ve sz sm it dr th sY tY dl dy dm vc ms me cr hd hN ps la ey tn tm sn sc fn fc := by
  have ip := bt_ix4 hp
  refine br_c (fun z => ⟨ip.2.2.2.2.1, ?_⟩) (fun z => h _ _ _ _ (Or.inl ⟨z, z1 z, rfl, rfl, rfl, rfl⟩))
  rw [ip.2.2.2.2.2.1, tb0]
  obtain ⟨b4, fr4⟩ := z0 z
  exact yy_copyTable ht4 b4 (fr4 p hp tp) (fun hd2 ps2 la2 hN2 h1 h2 h3 h4 => h hd2 hN2 ps2 la2 (Or.inr ⟨z, b4, fr4, h1, h2, h3, h4⟩))
theorem yf_117 {post : Int32 → SY → Prop} {p c b b' mode : Nat} {sh : Int32} (hp : p < 4) (hm : mode ≤ 2) (tp : th p ≠ 0) (sb : sY p = nI (s' p)) (hs4 : s' p < 4) (hB : ∀ i, bt_B (cr i)) (z1 : mode = 0 → b = s' p) (z0 : mode ≠ 0 → b < 4 ∧ ∀ q, q < 4 → th q ≠ 0 → s' q ≠ b)
    (h : ∀ vc2 ms2 me2 cr2 : Nat → Int32, bt_pY mode th s' (s' p) b vc ms me cr vc2 ms2 me2 cr2 → wY_fork_143 post (nI p) sh (nI c) (nI b) (nI b') ls es tt se fr st nm pa ve sz sm it dr th sY tY dl dy dm vc2 ms2 me2 cr2 hd hN ps la ey tn tm sn sc fn fc) : wY_fork_117 post (nI p) (nI mode) sh (nI c) (nI b) (nI b') ls es tt se fr st nm pa ve sz sm it dr th sY tY dl dy dm vc ms me cr hd hN ps la ey tn tm sn sc fn fc := by
  have ip := bt_ix4 hp
  have m3 : mode = 0 ∨ mode = 1 ∨ mode = 2 := by omega
  rcases m3 with rfl | rfl | rfl
  · exact br_t (by decide) (h _ _ _ _ (Or.inl ⟨rfl, z1 rfl, rfl, rfl, rfl, rfl⟩))
  · obtain ⟨b4, fr4⟩ := z0 (by omega)
    refine br_f (by decide) ⟨ip.2.2.2.2.1, ?_⟩
    rw [ip.2.2.2.2.2.1, sb]
    refine br_f (by decide) ?_
    unfold wY_fork_140
    exact yy_copySpace hs4 b4 (fr4 p hp tp) hB (fun vc2 ms2 me2 cr2 h1 h2 h3 h4 => h vc2 ms2 me2 cr2 (Or.inr ⟨by omega, b4, fr4, fun _ => h1.1 rfl, fun z => by omega, h2, h3, h4⟩))
  · obtain ⟨b4, fr4⟩ := z0 (by omega)
    refine br_f (by decide) ⟨ip.2.2.2.2.1, ?_⟩
    rw [ip.2.2.2.2.2.1, sb]
    refine br_t (by decide) ?_
    unfold wY_fork_140
    exact yy_copySpace hs4 b4 (fr4 p hp tp) hB (fun vc2 ms2 me2 cr2 h1 h2 h3 h4 => h vc2 ms2 me2 cr2 (Or.inr ⟨by omega, b4, fr4, fun z => by omega, fun _ => h1.2 (by decide), h2, h3, h4⟩))
theorem bt_r4 {b : Nat} (h : b < 4) : nI b + 1 - (nI b + 1) / 4 * 4 = nI ((b + 1) % 4) := by
  rw [nI_1]; exact pk_rem (d := 4) (by omega) (by decide) (by decide)
theorem yf_93 {post : Int32 → SY → Prop} {j : Nat} {x1 x2 x4 x5 : Int32} (hj : j < 4) (fj : ∀ q, q < 4 → th q ≠ 0 → t' q ≠ j) (hs : ∀ p, p < 4 → tY p = nI (t' p) ∧ t' p < 4)
    (h : ∀ b', b' < 4 → (∀ q, q < 4 → th q ≠ 0 → t' q ≠ b') → wY_fork_117 post x1 x2 0 x4 x5 (nI b') ls es tt se fr st nm pa ve sz sm it dr th sY tY dl dy dm vc ms me cr hd hN ps la ey tn tm sn sc fn fc) :
    ∀ (n b' : Nat), b' < 4 → (j + 4 - b') % 4 < n → wY_fork_93 post x1 x2 0 x4 x5 ls es tt se fr st nm pa ve sz sm it dr th sY tY dl dy dm vc ms me cr hd hN ps la ey tn tm sn sc fn fc n (nI b') := by
  intro n
  induction n with
  | zero => intro b' _ h; omega
  | succ n ih =>
    intro b' hb' hn
    refine br_t rfl (yy_tableU hb' hs (fun ⟨q, hq, tq, e⟩ => br_f (by decide) ⟨by decide, nm_r (bt_r4 hb') (ih _ (by omega) ?_)⟩) (fun z => br_t rfl (h b' hb' z)))
    have : b' ≠ j := fun y => fj q hq tq (e.trans y)
    omega
theorem yf_69 {post : Int32 → SY → Prop} {j mode : Nat} {x1 x3 x4 x6 : Int32} (m1 : 1 ≤ mode) (m2 : mode ≤ 2) (hj : j < 4) (fj : ∀ q, q < 4 → th q ≠ 0 → s' q ≠ j) (hs : ∀ p, p < 4 → sY p = nI (s' p) ∧ s' p < 4)
    (h : ∀ b, b < 4 → (∀ q, q < 4 → th q ≠ 0 → s' q ≠ b) → ∃ n, wY_fork_93 post x1 (nI mode) x3 x4 (nI b) ls es tt se fr st nm pa ve sz sm it dr th sY tY dl dy dm vc ms me cr hd hN ps la ey tn tm sn sc fn fc n x6) :
    ∀ (n b : Nat), b < 4 → (j + 4 - b) % 4 < n → wY_fork_69 post x1 (nI mode) x3 x4 x6 ls es tt se fr st nm pa ve sz sm it dr th sY tY dl dy dm vc ms me cr hd hN ps la ey tn tm sn sc fn fc n (nI b) := by
  intro n
  induction n with
  | zero => intro b' _ h; omega
  | succ n ih =>
    intro b hb hn
    refine br_f (nI_nle (by omega) (by omega)) (yy_spaceU hb hs (fun ⟨q, hq, tq, e⟩ => br_f (by decide) ⟨by decide, nm_r (bt_r4 hb) (ih _ (by omega) ?_)⟩) (fun z => br_t rfl (h b hb z)))
    have : b ≠ j := fun y => fj q hq tq (e.trans y)
    omega
end
theorem i_vc_fork {k : Nat} {u : SX} {v : SY} (I : i_Rel k u v) (hk : k + 6 ≤ 3072) (v1 : Int32) (v2 : Int32) (v3 : Int32) : wpX_fork (fun r u' => wpY_fork (fun r' v' => r' = r ∧ i_Rel (k + 6) u' v') v v1 v2 (lw_bz v3)) u v1 v2 (lw_bz v3) := by
  obtain ⟨ls, tl, ec, kc, es, tt, se, fr, st, dr, nm, pa, ve, sz, it, sm, hl, th, sp, tb, dl, dn, cc, cv, mn, mc, oc, on, om, op, tr, el, cm, sY, tY, dy, dm, vc, ms, me, cr, hd, hN, ps, la, ey, tn, tm, sn, sc, fn, fc, s, s', t, t', rfl, rfl, R⟩ := I
  unfold wpX_fork wpY_fork
  by_cases hn : ∃ q, q < 4 ∧ v1 = nI q ∧ th q ≠ 0
  · obtain ⟨p, hp, rfl, tp⟩ := hn
    have ip := bt_ix4 hp
    by_cases a0 : v2 < 0
    · exact xx_isP1 hp tp (br_f (by decide) (br_t a0 (yy_isP1 hp tp (br_f (by decide) (br_t a0 ⟨rfl, bt_mkR R⟩)))))
    by_cases a2 : v2 ≤ 2
    · obtain ⟨mode, hm, rfl⟩ := nI_of2 (M := 2) (n := 2) (by decide) a0 a2
      have J := R
      obtain ⟨RA, B1, B2, RS, RT, RP⟩ := J
      obtain ⟨sa, hs4, sb, hs4'⟩ := RS.1 p hp
      obtain ⟨ta, ht4, tb0, ht4'⟩ := RT.1 p hp
      refine xx_isP1 hp tp (br_f (by decide) (br_f a0 (br_t a2 (xx_fp ?_))))
      cases of : bt_f (fun p => th p = 0) 0 4 with
      | none =>
        refine br_t rfl (yy_isP1 hp tp (br_f (by decide) (br_f a0 (br_t a2 ⟨5, yy_f22 4 0 5 rfl (by omega) (fun c hc => ?_) (fun _ => br_t rfl ⟨rfl, bt_mkR R⟩)⟩))))
        rw [of] at hc; cases hc
      | some c =>
        obtain ⟨_, c4, tc, _⟩ := bt_f_s 4 0 of
        have hc : c < 4 := by omega
        have ic := bt_ix4 hc
        have pc : p ≠ c := fun e => by rw [e] at tp; exact tp tc
        have exS := bt_pig hc tc (fun q hq => (RS.1 q hq).2.1)
        have exT := bt_pig hc tc (fun q hq => (RT.1 q hq).2.1)
        obtain ⟨jS, jS4, jSf⟩ := bt_pig hc tc (fun q hq => (RS.1 q hq).2.2.2)
        obtain ⟨jT, jT4, jTf⟩ := bt_pig hc tc (fun q hq => (RT.1 q hq).2.2.2)
        -- Y's part, once X's is done
        have Yw : ∀ (a a' : Nat) (cc2 cv2 mn2 mc2 oc2 on2 om2 op2 dn2 : Nat → Int32), bt_pX mode th s (s p) a cc cv mn mc cc2 cv2 mn2 mc2 → bt_qX (lw_bz v3) th t (t p) a' oc on om op oc2 on2 om2 op2 → bt_cp dn dn2 (7 * p) (7 * c) 7 →
            wpY_fork (fun r' v' => r' = nI c ∧ i_Rel (k + 6) (ls, tl, ec, kc, st, dr, nm, pa, ve, sz, it, sm, hl, upd th c 1, upd sp c (nI a), upd tb c (nI a'), upd dl c (dl p), dn2, cc2, cv2, mn2, mc2, oc2, on2, om2, op2, tr, el, cm) v') (ls, es, tt, se, fr, st, nm, pa, ve, sz, sm, it, dr, th, sY, tY, dl, dy, dm, vc, ms, me, cr, hd, hN, ps, la, ey, tn, tm, sn, sc, fn, fc) (nI p) (nI mode) (lw_bz v3) := by
          intro a a' cc2 cv2 mn2 mc2 oc2 on2 om2 op2 dn2 hX qX d1
          have tail : ∀ b b' : Nat, (mode = 0 → b = s' p) → (mode ≠ 0 → b < 4 ∧ ∀ q, q < 4 → th q ≠ 0 → s' q ≠ b) → (¬ lw_bz v3 = 0 → b' = t' p) → (lw_bz v3 = 0 → b' < 4 ∧ ∀ q, q < 4 → th q ≠ 0 → t' q ≠ b') →
              wY_fork_117 (fun r' v' => r' = nI c ∧ i_Rel (k + 6) (ls, tl, ec, kc, st, dr, nm, pa, ve, sz, it, sm, hl, upd th c 1, upd sp c (nI a), upd tb c (nI a'), upd dl c (dl p), dn2, cc2, cv2, mn2, mc2, oc2, on2, om2, op2, tr, el, cm) v') (nI p) (nI mode) (lw_bz v3) (nI c) (nI b) (nI b') ls es tt se fr st nm pa ve sz sm it dr th sY tY dl dy dm vc ms me cr hd hN ps la ey tn tm sn sc fn fc := by
            intro b b' z1 z2 z3 z4
            refine yf_117 hp hm tp sb hs4' B2 z1 z2 (fun vc2 ms2 me2 cr2 hY => yf_143 hp tp tb0 ht4' z3 z4 (fun hd2 hN2 ps2 la2 qY => yf_159 hp hc pc (fun dy2 dm2 d2 d3 => ⟨rfl, ?_⟩)))
            exact bt_mkR (bt_fork R hp tp hc tc hX hY qX qY d1 d2 d3)
          unfold wpY_fork
          refine yy_isP1 hp tp (br_f (by decide) (br_f a0 (br_t a2 ⟨5, yy_f22 4 0 5 rfl (by omega) (fun c' hc' => ?_) (fun z => by rw [of] at z; cases z)⟩)))
          have ecc : c' = c := by rw [of] at hc'; cases hc'; rfl
          subst ecc
          refine br_f (fun z => by have := bt_inj (b := 4) (by omega) (by decide) z; omega) ⟨ip.2.2.2.2.1, nm_r (show _ = nI (s' p) from by rw [ip.2.2.2.2.2.1]; exact sb) ⟨ip.2.2.2.2.1, nm_r (show _ = nI (t' p) from by rw [ip.2.2.2.2.2.1]; exact tb0) ?_⟩⟩
          have tabs : ∀ b : Nat, (mode = 0 → b = s' p) → (mode ≠ 0 → b < 4 ∧ ∀ q, q < 4 → th q ≠ 0 → s' q ≠ b) →
              ∃ n, wY_fork_93 (fun r' v' => r' = nI c' ∧ i_Rel (k + 6) (ls, tl, ec, kc, st, dr, nm, pa, ve, sz, it, sm, hl, upd th c' 1, upd sp c' (nI a), upd tb c' (nI a'), upd dl c' (dl p), dn2, cc2, cv2, mn2, mc2, oc2, on2, om2, op2, tr, el, cm) v') (nI p) (nI mode) (lw_bz v3) (nI c') (nI b) ls es tt se fr st nm pa ve sz sm it dr th sY tY dl dy dm vc ms me cr hd hN ps la ey tn tm sn sc fn fc n (nI (t' p)) := by
            intro b z1 z2
            by_cases sh : lw_bz v3 = 0
            · have tl0 := tail b
              rw [sh] at tl0 ⊢
              exact ⟨4, yf_93 jT4 jTf (fun q hq => ⟨(RT.1 q hq).2.2.1, (RT.1 q hq).2.2.2⟩) (fun b' b4 fb => tl0 b' z1 z2 (fun z => absurd rfl z) (fun _ => ⟨b4, fb⟩)) 4 (t' p) ht4' (by omega)⟩
            · exact ⟨1, br_f sh (tail b (t' p) z1 z2 (fun _ => rfl) (fun z => absurd z sh))⟩
          by_cases m0 : mode = 0
          · have e0 : nI mode ≤ 0 := by rw [m0]; decide
            exact ⟨1, br_t e0 (tabs (s' p) (fun _ => rfl) (fun z => absurd m0 z))⟩
          · exact ⟨4, yf_69 (by omega) hm jS4 jSf (fun q hq => ⟨(RS.1 q hq).2.2.1, (RS.1 q hq).2.2.2⟩) (fun b b4 fb => tabs b (fun z => absurd z m0) (fun _ => ⟨b4, fb⟩)) 4 (s' p) hs4' (by omega)⟩
        unfold wpY_fork at Yw
        refine br_f ic.2.2.2.2.2.2 ?_
        -- X
        have Xt : ∀ a a' : Nat, (mode = 0 → a = s p) → (mode ≠ 0 → a < 4 ∧ ∀ q, q < 4 → th q ≠ 0 → s q ≠ a) → (¬ lw_bz v3 = 0 → a' = t p) → (lw_bz v3 = 0 → a' < 4 ∧ ∀ q, q < 4 → th q ≠ 0 → t q ≠ a') →
            wX_fork_78 (fun r u' => wpY_fork (fun r' v' => r' = r ∧ i_Rel (k + 6) u' v') (ls, es, tt, se, fr, st, nm, pa, ve, sz, sm, it, dr, th, sY, tY, dl, dy, dm, vc, ms, me, cr, hd, hN, ps, la, ey, tn, tm, sn, sc, fn, fc) (nI p) (nI mode) (lw_bz v3)) (nI p) (nI mode) (lw_bz v3) (nI c) (nI a) (nI a') ls tl ec kc st dr nm pa ve sz it sm hl th sp tb dl dn cc cv mn mc oc on om op tr el cm := by
          intro a a' z1 z2 z3 z4
          refine xf_78 hp hm tp sa hs4 B1 z1 z2 (fun cc2 cv2 mn2 mc2 hX => xf_108 hp hc tp ta ht4 z3 z4 (fun oc2 on2 om2 op2 qX => xf_124 hp hc pc (fun dn2 d1 => ?_)))
          unfold wpY_fork
          exact Yw a a' cc2 cv2 mn2 mc2 oc2 on2 om2 op2 dn2 hX qX d1
        have X55 : ∀ a : Nat, (mode = 0 → a = s p) → (mode ≠ 0 → a < 4 ∧ ∀ q, q < 4 → th q ≠ 0 → s q ≠ a) →
            wX_fork_55 (fun r u' => wpY_fork (fun r' v' => r' = r ∧ i_Rel (k + 6) u' v') (ls, es, tt, se, fr, st, nm, pa, ve, sz, sm, it, dr, th, sY, tY, dl, dy, dm, vc, ms, me, cr, hd, hN, ps, la, ey, tn, tm, sn, sc, fn, fc) (nI p) (nI mode) (lw_bz v3)) (nI p) (nI mode) (lw_bz v3) (nI c) (nI a) ls tl ec kc st dr nm pa ve sz it sm hl th sp tb dl dn cc cv mn mc oc on om op tr el cm := by
          intro a z1 z2
          by_cases sh : lw_bz v3 = 0
          · exact br_t sh (xx_unT (fun q hq => ⟨(RT.1 q hq).1, (RT.1 q hq).2.1⟩) exT (fun a' a4 fa => Xt a a' z1 z2 (fun z => absurd sh z) (fun _ => ⟨a4, fa⟩)))
          · refine br_f sh ⟨ip.2.2.2.2.1, ?_⟩
            rw [ip.2.2.2.2.2.1, ta]
            exact Xt a (t p) z1 z2 (fun _ => rfl) (fun z => absurd z sh)
        unfold wpY_fork at X55
        by_cases m0 : mode = 0
        · refine br_t (by rw [m0]; rfl) ⟨ip.2.2.2.2.1, ?_⟩
          have := X55 (s p) (fun _ => rfl) (fun z => absurd m0 z)
          rw [← sa] at this
          show wX_fork_55 _ (nI p) (nI mode) (lw_bz v3) (nI c) (sp (nI p).toNatClampNeg) _ _ _ _ _ _ _ _ _ _ _ _ _ _ _ _ _ _ _ _ _ _ _ _ _ _ _ _ _
          rw [ip.2.2.2.2.2.1]
          exact this
        · refine br_f (nI_ne0 (by omega) (by omega)) (xx_unS (fun q hq => ⟨(RS.1 q hq).1, (RS.1 q hq).2.1⟩) exS (fun a a4 fa => X55 a (fun z => absurd z m0) (fun _ => ⟨a4, fa⟩)))
    · exact xx_isP1 hp tp (br_f (by decide) (br_f a0 (br_f a2 (yy_isP1 hp tp (br_f (by decide) (br_f a0 (br_f a2 ⟨rfl, bt_mkR R⟩)))))))
  · exact xx_isP0 hn (br_t rfl (yy_isP0 hn (br_t rfl ⟨rfl, bt_mkR R⟩)))
