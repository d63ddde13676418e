/-- where the coming and the kept members of a cover come to lie -/
def bt_ly (f h : Nat → Int32) (base F E N K : Nat) (g V VC : Nat → Int32) (b : Int32) : Prop :=
  (∀ m, m < N → f (base + (F + m)) = g m ∧ h (base + (F + m)) = b) ∧ (∀ m, m < K → f (base + (E + m)) = V m ∧ h (base + (E + m)) = VC m)
def bt_QX (st th dl dn cc cv mn mc oc on : Nat → Int32) (s t : Nat → Nat) (i N K F E : Nat) (ov : Int32) (g V VC : Nat → Int32) (b : Int32) (st2 cc2 cv2 mn2 mc2 : Nat → Int32) : Prop :=
  cc2 = upd cc i (nI (K + N)) ∧ cv2 i = ov ∧ (∀ x, x ≠ i → cv2 x = cv x) ∧ bt_ly mn2 mc2 (5 * i) F E N K g V VC b ∧ (∀ x, (x < 5 * i ∨ 5 * i + 5 ≤ x) → mn2 x = mn x ∧ mc2 x = mc x) ∧ (∀ x, bt_B (mc2 x)) ∧
  bt_sw st (bt_H th dl dn cc2 cv2 mn2 oc on s t) st2
section
variable {ls tl ec kc : Int32} {st dr nm pa ve sz it sm hl th sp tb dl dn cc cv mn mc oc on om op tr el cm : Nat → Int32} {es tt se fr : Int32} {sY tY dy dm vc ms me cr hd hN ps la ey tn tm sn sc fn fc : Nat → Int32} {s s' t t' : Nat → Nat} {cc2 cv2 mn2 : Nat → Int32}
theorem bt_wf_C {p k : Nat} (hw : bt_wf th dl sp tb dn cc cv mn oc on s t) (hk : k < 6) (h1 : ∀ x, x ≠ 6 * s p + k → cc2 x = cc x ∧ cv2 x = cv x) (h2 : ∀ x, (x < 5 * (6 * s p + k) ∨ 5 * (6 * s p + k) + 5 ≤ x) → mn2 x = mn x)
    (hn : cc2 (6 * s p + k) = 0 ∨ ∃ c, 1 ≤ c ∧ c ≤ 5 ∧ cc2 (6 * s p + k) = nI c ∧ (∃ n, n < 48 ∧ cv2 (6 * s p + k) = nI n) ∧ ∀ m, m < c → ∃ n, n < 48 ∧ mn2 (5 * (6 * s p + k) + m) = nI n) : bt_wf th dl sp tb dn cc2 cv2 mn2 oc on s t := by
  intro q hq tq
  obtain ⟨a, b, c, d, e, f, g⟩ := hw q hq tq
  refine ⟨a, b, c, d, e, fun k' hk' => ?_, g⟩
  by_cases z : 6 * s q + k' = 6 * s p + k
  · rw [z]; exact hn
  · rw [(h1 _ z).1, (h1 _ z).2]
    rcases f k' hk' with y | ⟨c0, y1, y2, y3, y4, y5⟩
    · exact Or.inl y
    · refine Or.inr ⟨c0, y1, y2, y3, y4, fun m hm => ?_⟩
      rw [h2 _ (by rcases Nat.lt_or_gt_of_ne z with w | w <;> omega)]
      exact y5 m hm
theorem xx_put {post : SX → Prop} {i m : Nat} {y b : Int32} (hi : i < 24) (hm : m < 5) (hb : bt_B b) (h : post (ls, tl, ec, kc, st, dr, nm, pa, ve, sz, it, sm, hl, th, sp, tb, dl, dn, cc, cv, upd mn (5 * i + m) y, upd mc (5 * i + m) b, oc, on, om, op, tr, el, cm)) : wpX_putMember post (ls, tl, ec, kc, st, dr, nm, pa, ve, sz, it, sm, hl, th, sp, tb, dl, dn, cc, cv, mn, mc, oc, on, om, op, tr, el, cm) (nI i) (nI m) y b := by
  have ix := bt_ix120 (q := 5 * i + m) (by omega)
  have e5 : nI i * 5 + nI m = nI (5 * i + m) := by rw [bt_m5, nI_add]
  unfold wpX_putMember
  show vp_in (nI i * 5 + nI m) 120 ∧ _
  rw [e5, ix.2.2.2.2.2.1, bt_nB hb]
  exact ⟨ix.2.2.2.2.1, nm_e ⟨ix.2.2.2.2.1, nm_e h⟩⟩
theorem yy_put {post : SY → Prop} {x : Nat} {y b : Int32} (hx : x < 120) (hb : bt_B b) (h : post (ls, es, tt, se, fr, st, nm, pa, ve, sz, sm, it, dr, th, sY, tY, dl, dy, dm, vc, ms, upd me x y, upd cr x b, hd, hN, ps, la, ey, tn, tm, sn, sc, fn, fc)) : wpY_put post (ls, es, tt, se, fr, st, nm, pa, ve, sz, sm, it, dr, th, sY, tY, dl, dy, dm, vc, ms, me, cr, hd, hN, ps, la, ey, tn, tm, sn, sc, fn, fc) (nI x) y b := by
  have ix := bt_ix120 hx
  unfold wpY_put
  show vp_in (nI x) 120 ∧ _
  rw [ix.2.2.2.2.2.1, bt_nB hb]
  exact ⟨ix.2.2.2.2.1, nm_e ⟨ix.2.2.2.2.1, nm_e h⟩⟩
theorem xc_106 {post : Int32 → SX → Prop} {i F K N : Nat} {b : Int32} {g : Nat → Int32} (hi : i < 24) (hF : F + N ≤ 5) (hKN : K + N ≤ 5) (hb : bt_B b) (hg : ∀ m, m < N → cm m = g m)
    (hw : ∀ mn2 mc2 : Nat → Int32, (∀ m, m < N → mn2 (5 * i + (F + m)) = g m ∧ mc2 (5 * i + (F + m)) = b) → (∀ x, (x < 5 * i + F ∨ 5 * i + F + N ≤ x) → mn2 x = mn x ∧ mc2 x = mc x) → bt_wf th dl sp tb dn (upd cc i (nI (K + N))) cv mn2 oc on s t)
    (h : ∀ st2 hl2 mn2 mc2 : Nat → Int32, (∀ m, m < N → mn2 (5 * i + (F + m)) = g m ∧ mc2 (5 * i + (F + m)) = b) → (∀ x, (x < 5 * i + F ∨ 5 * i + F + N ≤ x) → mn2 x = mn x ∧ mc2 x = mc x) → (∀ x, bt_B (mc2 x)) →
      bt_sw st (bt_H th dl dn (upd cc i (nI (K + N))) cv mn2 oc on s t) st2 → post (nI (K + N)) (ls, tl, ec, nI N, st2, dr, nm, pa, ve, sz, it, sm, hl2, th, sp, tb, dl, dn, upd cc i (nI (K + N)), cv, mn2, mc2, oc, on, om, op, tr, el, cm)) :
    ∀ (e q n : Nat) (mn2 mc2 : Nat → Int32), q + e = N → e < n → (∀ m, m < q → mn2 (5 * i + (F + m)) = g m ∧ mc2 (5 * i + (F + m)) = b) → (∀ x, (x < 5 * i + F ∨ 5 * i + F + q ≤ x) → mn2 x = mn x ∧ mc2 x = mc x) → (∀ x, bt_B (mc2 x)) →
      wX_coverWithComing_106 post b (nI i) (nI K) (nI F) n (nI q) ls tl ec (nI N) st dr nm pa ve sz it sm hl th sp tb dl dn cc cv mn2 mc2 oc on om op tr el cm := by
  have ix := bt_ix24 hi
  intro e
  induction e with
  | zero =>
    intro q n mn2 mc2 hq hn h1 h2 h3
    obtain ⟨n, rfl⟩ : ∃ n', n = n' + 1 := ⟨n - 1, by omega⟩
    have : q = N := by omega
    subst this
    refine br_t (Int32.le_refl _) ⟨ix.2.2.2.2.1, ?_⟩
    rw [ix.2.2.2.2.2.1, nI_add]
    refine nm_e (xx_sw (hw mn2 mc2 h1 h2) (fun st2 hl2 sw => ⟨ix.2.2.2.2.1, ?_⟩))
    rw [pk_us]
    exact h st2 hl2 mn2 mc2 h1 h2 h3 sw
  | succ e ih =>
    intro q n mn2 mc2 hq hn h1 h2 h3
    obtain ⟨n, rfl⟩ : ∃ n', n = n' + 1 := ⟨n - 1, by omega⟩
    have iq := bt_ix5 (q := q) (by omega)
    refine br_f (nI_ge (by omega) (by omega)) ⟨iq.2.2.2.2.1, ?_⟩
    rw [nI_add, iq.2.2.2.2.2.1, hg q (by omega)]
    refine xx_put hi (by omega) hb (nm_r (nI_1 _) (ih (q + 1) n _ _ (by omega) (by omega) (fun m hm => ?_) (fun x hx => ?_) (bt_Bu h3 hb)))
    · by_cases w : m = q
      · rw [w, pk_us, pk_us]; exact ⟨rfl, rfl⟩
      · rw [pk_un (by omega), pk_un (by omega)]; exact h1 m (by omega)
    · rw [pk_un (by omega), pk_un (by omega)]; exact h2 x (by omega)
theorem xc_mv {post : SX → Prop} {i K N : Nat} {V VC : Nat → Int32} (hi : i < 24) (hKN : K + N ≤ 5) (N1 : 1 ≤ N)
    (h : ∀ mn2 mc2 : Nat → Int32, (∀ m, m < K → mn2 (5 * i + (N + m)) = V m ∧ mc2 (5 * i + (N + m)) = VC m) → (∀ x, (x < 5 * i ∨ 5 * i + 5 ≤ x) → mn2 x = mn x ∧ mc2 x = mc x) → (∀ x, bt_B (mc2 x)) → post (ls, tl, ec, nI N, st, dr, nm, pa, ve, sz, it, sm, hl, th, sp, tb, dl, dn, cc, cv, mn2, mc2, oc, on, om, op, tr, el, cm)) :
    ∀ (e n : Nat) (mn2 mc2 : Nat → Int32), e ≤ K → e < n → (∀ m, m < e → mn2 (5 * i + m) = V m ∧ mc2 (5 * i + m) = VC m) → (∀ m, e ≤ m → m < K → mn2 (5 * i + (N + m)) = V m ∧ mc2 (5 * i + (N + m)) = VC m) → (∀ x, (x < 5 * i ∨ 5 * i + 5 ≤ x) → mn2 x = mn x ∧ mc2 x = mc x) → (∀ x, bt_B (mc2 x)) →
      wX_moveMembersUp_4 post (nI i) n (nI e - 1) ls tl ec (nI N) st dr nm pa ve sz it sm hl th sp tb dl dn cc cv mn2 mc2 oc on om op tr el cm := by
  intro e
  induction e with
  | zero =>
    intro n mn2 mc2 he hn h1 h2 h3 h4
    obtain ⟨n, rfl⟩ : ∃ n', n = n' + 1 := ⟨n - 1, by omega⟩
    exact br_t (by decide) (h mn2 mc2 (fun m hm => h2 m (by omega) hm) h3 h4)
  | succ e ih =>
    intro n mn2 mc2 he hn h1 h2 h3 h4
    obtain ⟨n, rfl⟩ : ∃ n', n = n' + 1 := ⟨n - 1, by omega⟩
    have ie := bt_ix5 (q := e) (by omega)
    have iz := bt_ix120 (q := 5 * i + e) (by omega)
    have e5 : nI i * 5 + nI e = nI (5 * i + e) := by rw [bt_m5, nI_add]
    rw [nI_pred]
    refine br_f ie.1 (nm_r e5 ⟨iz.2.2.2.2.1, iz.2.2.2.2.1, ?_⟩)
    rw [iz.2.2.2.2.2.1, nI_add, Nat.add_comm e N]
    refine xx_put hi (by omega) (h4 _) (nm_r (bt_am1 _) (ih n _ _ (by omega) (by omega) (fun m hm => ?_) (fun m hm1 hm2 => ?_) (fun x hx => ?_) (bt_Bu h4 (h4 _))))
    · rw [pk_un (by omega), pk_un (by omega)]; exact h1 m (by omega)
    · by_cases w : m = e
      · rw [w, pk_us, pk_us]; exact h1 e (by omega)
      · rw [pk_un (by omega), pk_un (by omega)]; exact h2 m (by omega) hm2
    · rw [pk_un (by omega), pk_un (by omega)]; exact h3 x hx
/-- from the cover's own place on: X -/
theorem xc_77 {post : Int32 → SX → Prop} {i K N F E ord : Nat} {b : Int32} {g V VC : Nat → Int32} (hi : i < 24) (ho : ord ≤ 2) (hKN : K + N ≤ 5) (N1 : 1 ≤ N) (hb : bt_B b) (hB : ∀ x, bt_B (mc x)) (hg : ∀ m, m < N → cm m = g m)
    (hV : ∀ m, m < K → mn (5 * i + m) = V m ∧ mc (5 * i + m) = VC m) (o0 : ord = 0 → K = 0 ∧ F = 0) (o1 : ord = 1 → F = 0 ∧ E = N) (o2 : ord = 2 → F = K ∧ E = 0)
    (hw : ∀ mn2 mc2 : Nat → Int32, bt_ly mn2 mc2 (5 * i) F E N K g V VC b → (∀ x, (x < 5 * i ∨ 5 * i + 5 ≤ x) → mn2 x = mn x ∧ mc2 x = mc x) → bt_wf th dl sp tb dn (upd cc i (nI (K + N))) cv mn2 oc on s t)
    (h : ∀ st2 hl2 mn2 mc2 : Nat → Int32, bt_ly mn2 mc2 (5 * i) F E N K g V VC b → (∀ x, (x < 5 * i ∨ 5 * i + 5 ≤ x) → mn2 x = mn x ∧ mc2 x = mc x) → (∀ x, bt_B (mc2 x)) →
      bt_sw st (bt_H th dl dn (upd cc i (nI (K + N))) cv mn2 oc on s t) st2 → post (nI (K + N)) (ls, tl, ec, nI N, st2, dr, nm, pa, ve, sz, it, sm, hl2, th, sp, tb, dl, dn, upd cc i (nI (K + N)), cv, mn2, mc2, oc, on, om, op, tr, el, cm)) :
    wX_coverWithComing_77 post (nI ord) b (nI i) (nI K) ls tl ec (nI N) st dr nm pa ve sz it sm hl th sp tb dl dn cc cv mn mc oc on om op tr el cm := by
  have m3 : ord = 0 ∨ ord = 1 ∨ ord = 2 := by omega
  rcases m3 with rfl | rfl | rfl
  · obtain ⟨rfl, rfl⟩ := o0 rfl
    have ly : ∀ mn2 mc2 : Nat → Int32, (∀ m, m < N → mn2 (5 * i + (0 + m)) = g m ∧ mc2 (5 * i + (0 + m)) = b) → bt_ly mn2 mc2 (5 * i) 0 E N 0 g V VC b := fun mn2 mc2 a1 => ⟨a1, fun m hm => by omega⟩
    exact br_f (by decide) (br_f (by decide) ⟨N + 1, xc_106 hi (by omega) hKN hb hg (fun mn2 mc2 a1 a2 => hw mn2 mc2 (ly mn2 mc2 a1) (fun x hx => a2 x (by omega))) (fun st2 hl2 mn2 mc2 a1 a2 a3 sw => h st2 hl2 mn2 mc2 (ly mn2 mc2 a1) (fun x hx => a2 x (by omega)) a3 sw) N 0 (N + 1) mn mc (by omega) (by omega) (fun m hm => by omega) (fun _ _ => ⟨rfl, rfl⟩) hB⟩)
  · obtain ⟨rfl, rfl⟩ := o1 rfl
    refine br_t (by decide) ?_
    unfold wpX_moveMembersUp
    refine nm_e ⟨K + 1, xc_mv (V := V) (VC := VC) hi hKN N1 (fun mn1 mc1 b1 b2 b3 => ?_) K (K + 1) mn mc (Nat.le_refl _) (by omega) hV (fun m h1 h2 => by omega) (fun _ _ => ⟨rfl, rfl⟩) hB⟩
    have ly : ∀ mn2 mc2 : Nat → Int32, (∀ m, m < E → mn2 (5 * i + (0 + m)) = g m ∧ mc2 (5 * i + (0 + m)) = b) → (∀ x, (x < 5 * i + 0 ∨ 5 * i + 0 + E ≤ x) → mn2 x = mn1 x ∧ mc2 x = mc1 x) → bt_ly mn2 mc2 (5 * i) 0 E E K g V VC b := by
      intro mn2 mc2 a1 a2
      refine ⟨a1, fun m hm => ?_⟩
      rw [(a2 (5 * i + (E + m)) (by omega)).1, (a2 (5 * i + (E + m)) (by omega)).2]
      exact b1 m hm
    have ot : ∀ mn2 mc2 : Nat → Int32, (∀ x, (x < 5 * i + 0 ∨ 5 * i + 0 + E ≤ x) → mn2 x = mn1 x ∧ mc2 x = mc1 x) → ∀ x, (x < 5 * i ∨ 5 * i + 5 ≤ x) → mn2 x = mn x ∧ mc2 x = mc x := by
      intro mn2 mc2 a2 x hx
      rw [(a2 x (by omega)).1, (a2 x (by omega)).2]
      exact b2 x hx
    exact br_f (by decide) ⟨E + 1, xc_106 hi (by omega) hKN hb hg (fun mn2 mc2 a1 a2 => hw mn2 mc2 (ly mn2 mc2 a1 a2) (ot mn2 mc2 a2)) (fun st2 hl2 mn2 mc2 a1 a2 a3 sw => h st2 hl2 mn2 mc2 (ly mn2 mc2 a1 a2) (ot mn2 mc2 a2) a3 sw) E 0 (E + 1) mn1 mc1 (by omega) (by omega) (fun m hm => by omega) (fun _ _ => ⟨rfl, rfl⟩) b3⟩
  · obtain ⟨rfl, rfl⟩ := o2 rfl
    have ly : ∀ mn2 mc2 : Nat → Int32, (∀ m, m < N → mn2 (5 * i + (F + m)) = g m ∧ mc2 (5 * i + (F + m)) = b) → (∀ x, (x < 5 * i + F ∨ 5 * i + F + N ≤ x) → mn2 x = mn x ∧ mc2 x = mc x) → bt_ly mn2 mc2 (5 * i) F 0 N F g V VC b := by
      intro mn2 mc2 a1 a2
      refine ⟨a1, fun m hm => ?_⟩
      rw [Nat.zero_add, (a2 (5 * i + m) (by omega)).1, (a2 (5 * i + m) (by omega)).2]
      exact hV m hm
    exact br_f (by decide) (br_t (by decide) ⟨N + 1, xc_106 hi (by omega) hKN hb hg (fun mn2 mc2 a1 a2 => hw mn2 mc2 (ly mn2 mc2 a1 a2) (fun x hx => a2 x (by omega))) (fun st2 hl2 mn2 mc2 a1 a2 a3 sw => h st2 hl2 mn2 mc2 (ly mn2 mc2 a1 a2) (fun x hx => a2 x (by omega)) a3 sw) N 0 (N + 1) mn mc (by omega) (by omega) (fun m hm => by omega) (fun _ _ => ⟨rfl, rfl⟩) hB⟩)
-- Y
theorem yc_188 {post : Int32 → SY → Prop} {j A K : Nat} {nn : Int32} (hj : j < 24) (hAK : A + K ≤ 5) (hS : ∀ m, m < K → bt_B (sc m))
    (h : ∀ me2 cr2 : Nat → Int32, (∀ m, m < K → me2 (5 * j + (A + m)) = sn m ∧ cr2 (5 * j + (A + m)) = sc m) → (∀ x, (x < 5 * j + A ∨ 5 * j + A + K ≤ x) → me2 x = me x ∧ cr2 x = cr x) → (∀ x, bt_B (cr2 x)) → wY_cover_236 post nn ls es tt (nI K) fr st nm pa ve sz sm it dr th sY tY dl dy dm vc ms me2 cr2 hd hN ps la ey tn tm sn sc fn fc) :
    ∀ (e q n : Nat) (me2 cr2 : Nat → Int32), q + e = K → e < n → (∀ m, m < q → me2 (5 * j + (A + m)) = sn m ∧ cr2 (5 * j + (A + m)) = sc m) → (∀ x, (x < 5 * j + A ∨ 5 * j + A + q ≤ x) → me2 x = me x ∧ cr2 x = cr x) → (∀ x, bt_B (cr2 x)) →
      wY_cover_188 post 1 nn (nI j) n (nI (A + q)) (nI q) ls es tt (nI K) fr st nm pa ve sz sm it dr th sY tY dl dy dm vc ms me2 cr2 hd hN ps la ey tn tm sn sc fn fc := by
  intro e
  induction e with
  | zero =>
    intro q n me2 cr2 hq hn h1 h2 h3
    obtain ⟨n, rfl⟩ : ∃ n', n = n' + 1 := ⟨n - 1, by omega⟩
    have : q = K := by omega
    subst this
    exact br_t (Int32.le_refl _) (h me2 cr2 h1 h2 h3)
  | succ e ih =>
    intro q n me2 cr2 hq hn h1 h2 h3
    obtain ⟨n, rfl⟩ : ∃ n', n = n' + 1 := ⟨n - 1, by omega⟩
    have iq := bt_ix5 (q := q) (by omega)
    have e5 : 5 * nI j + nI (A + q) = nI (5 * j + (A + q)) := by rw [bt_5m, nI_add]
    refine br_f (nI_ge (by omega) (by omega)) (br_t rfl (nm_r (nI_1 _) ⟨iq.2.2.2.2.1, iq.2.2.2.2.1, ?_⟩))
    rw [e5, iq.2.2.2.2.2.1]
    refine yy_put (by omega) (hS q (by omega)) (nm_r (nI_1 _) (ih (q + 1) n _ _ (by omega) (by omega) (fun m hm => ?_) (fun x hx => ?_) (bt_Bu h3 (hS q (by omega)))))
    · by_cases w : m = q
      · rw [w, pk_us, pk_us]; exact ⟨rfl, rfl⟩
      · rw [pk_un (by omega), pk_un (by omega)]; exact h1 m (by omega)
    · rw [pk_un (by omega), pk_un (by omega)]; exact h2 x (by omega)
theorem yc_147 {post : Int32 → SY → Prop} {j A N : Nat} {nn x3 b : Int32} {g : Nat → Int32} (hj : j < 24) (hAN : A + N ≤ 5) (hb : bt_B b) (hg : ∀ m, m < N → fn m = g m)
    (h : ∀ me2 cr2 : Nat → Int32, (∀ m, m < N → me2 (5 * j + (A + m)) = g m ∧ cr2 (5 * j + (A + m)) = b) → (∀ x, (x < 5 * j + A ∨ 5 * j + A + N ≤ x) → me2 x = me x ∧ cr2 x = cr x) → (∀ x, bt_B (cr2 x)) → ∃ n, wY_cover_188 post x3 nn (nI j) n (nI (A + N)) 0 ls es tt se (nI N) st nm pa ve sz sm it dr th sY tY dl dy dm vc ms me2 cr2 hd hN ps la ey tn tm sn sc fn fc) :
    ∀ (e q n : Nat) (me2 cr2 : Nat → Int32), q + e = N → e < n → (∀ m, m < q → me2 (5 * j + (A + m)) = g m ∧ cr2 (5 * j + (A + m)) = b) → (∀ x, (x < 5 * j + A ∨ 5 * j + A + q ≤ x) → me2 x = me x ∧ cr2 x = cr x) → (∀ x, bt_B (cr2 x)) →
      wY_cover_147 post x3 b nn (nI j) n (nI (A + q)) (nI q) ls es tt se (nI N) st nm pa ve sz sm it dr th sY tY dl dy dm vc ms me2 cr2 hd hN ps la ey tn tm sn sc fn fc := by
  intro e
  induction e with
  | zero =>
    intro q n me2 cr2 hq hn h1 h2 h3
    obtain ⟨n, rfl⟩ : ∃ n', n = n' + 1 := ⟨n - 1, by omega⟩
    have : q = N := by omega
    subst this
    exact br_t (Int32.le_refl _) (h me2 cr2 h1 h2 h3)
  | succ e ih =>
    intro q n me2 cr2 hq hn h1 h2 h3
    obtain ⟨n, rfl⟩ : ∃ n', n = n' + 1 := ⟨n - 1, by omega⟩
    have iq := bt_ix11 (q := q) (by omega)
    have e5 : 5 * nI j + nI (A + q) = nI (5 * j + (A + q)) := by rw [bt_5m, nI_add]
    refine br_f (nI_ge (by omega) (by omega)) (nm_r (nI_1 _) ⟨iq.2.2.2.2.1, ?_⟩)
    rw [e5, iq.2.2.2.2.2.1, hg q (by omega)]
    refine yy_put (by omega) hb (nm_r (nI_1 _) (ih (q + 1) n _ _ (by omega) (by omega) (fun m hm => ?_) (fun x hx => ?_) (bt_Bu h3 hb)))
    · by_cases w : m = q
      · rw [w, pk_us, pk_us]; exact ⟨rfl, rfl⟩
      · rw [pk_un (by omega), pk_un (by omega)]; exact h1 m (by omega)
    · rw [pk_un (by omega), pk_un (by omega)]; exact h2 x (by omega)
theorem yc_96 {post : Int32 → SY → Prop} {j K : Nat} {nn b : Int32} (hj : j < 24) (hK : K ≤ 5) (hS : ∀ m, m < K → bt_B (sc m))
    (h : ∀ me2 cr2 : Nat → Int32, (∀ m, m < K → me2 (5 * j + m) = sn m ∧ cr2 (5 * j + m) = sc m) → (∀ x, (x < 5 * j ∨ 5 * j + K ≤ x) → me2 x = me x ∧ cr2 x = cr x) → (∀ x, bt_B (cr2 x)) → ∃ n, wY_cover_147 post 2 b nn (nI j) n (nI K) 0 ls es tt (nI K) fr st nm pa ve sz sm it dr th sY tY dl dy dm vc ms me2 cr2 hd hN ps la ey tn tm sn sc fn fc) :
    ∀ (e q n : Nat) (me2 cr2 : Nat → Int32), q + e = K → e < n → (∀ m, m < q → me2 (5 * j + m) = sn m ∧ cr2 (5 * j + m) = sc m) → (∀ x, (x < 5 * j ∨ 5 * j + q ≤ x) → me2 x = me x ∧ cr2 x = cr x) → (∀ x, bt_B (cr2 x)) →
      wY_cover_96 post 2 b nn (nI j) n (nI q) (nI q) ls es tt (nI K) fr st nm pa ve sz sm it dr th sY tY dl dy dm vc ms me2 cr2 hd hN ps la ey tn tm sn sc fn fc := by
  intro e
  induction e with
  | zero =>
    intro q n me2 cr2 hq hn h1 h2 h3
    obtain ⟨n, rfl⟩ : ∃ n', n = n' + 1 := ⟨n - 1, by omega⟩
    have : q = K := by omega
    subst this
    exact br_t (Int32.le_refl _) (h me2 cr2 h1 h2 h3)
  | succ e ih =>
    intro q n me2 cr2 hq hn h1 h2 h3
    obtain ⟨n, rfl⟩ : ∃ n', n = n' + 1 := ⟨n - 1, by omega⟩
    have iq := bt_ix5 (q := q) (by omega)
    have e5 : 5 * nI j + nI q = nI (5 * j + q) := by rw [bt_5m, nI_add]
    refine br_f (nI_ge (by omega) (by omega)) (br_t rfl (nm_r (nI_1 _) ⟨iq.2.2.2.2.1, iq.2.2.2.2.1, ?_⟩))
    rw [e5, iq.2.2.2.2.2.1]
    refine yy_put (by omega) (hS q (by omega)) (nm_r (nI_1 _) (ih (q + 1) n _ _ (by omega) (by omega) (fun m hm => ?_) (fun x hx => ?_) (bt_Bu h3 (hS q (by omega)))))
    · by_cases w : m = q
      · rw [w, pk_us, pk_us]; exact ⟨rfl, rfl⟩
      · rw [pk_un (by omega), pk_un (by omega)]; exact h1 m (by omega)
    · rw [pk_un (by omega), pk_un (by omega)]; exact h2 x (by omega)
/-- from the cover's own place on: Y; c members are seen, K of them kept -/
theorem yc_59 {post : Int32 → SY → Prop} {j K N F E ord c : Nat} {b over : Int32} {g V VC : Nat → Int32} (hj : j < 24) (ho : ord ≤ 2) (hKN : K + N ≤ 5) (hb : bt_B b) (hB : ∀ x, bt_B (cr x)) (hg : ∀ m, m < N → fn m = g m) (c1 : 1 ≤ c) (c5 : c ≤ 5)
    (hV : ∀ m, m < K → sn m = V m ∧ sc m = VC m) (hVB : ∀ m, m < K → bt_B (VC m)) (o0 : ord = 0 → K = 0 ∧ F = 0) (o1 : ord = 1 → F = 0 ∧ E = N ∧ K = c) (o2 : ord = 2 → F = K ∧ E = 0 ∧ K = c)
    (h : ∀ me2 cr2 : Nat → Int32, bt_ly me2 cr2 (5 * j) F E N K g V VC b → (∀ x, (x < 5 * j ∨ 5 * j + 5 ≤ x) → me2 x = me x ∧ cr2 x = cr x) → (∀ x, bt_B (cr2 x)) → wY_cover_236 post (nI (K + N)) ls es tt (nI c) (nI N) st nm pa ve sz sm it dr th sY tY dl dy dm (upd vc j over) (upd ms j (nI (K + N))) me2 cr2 hd hN ps la ey tn tm sn sc fn fc) :
    wY_cover_59 post over (nI ord) b (nI (K + N)) (nI j) ls es tt (nI c) (nI N) st nm pa ve sz sm it dr th sY tY dl dy dm vc ms me cr hd hN ps la ey tn tm sn sc fn fc := by
  have ix := bt_ix24 hj
  have n5 : ¬ (5 : Int32) < nI (K + N) := Int32.not_lt.mpr (nI_le (b := 5) (by omega) (by decide))
  refine br_f n5 (br_t ix.2.1 ⟨ix.2.2.2.2.1, ?_⟩)
  rw [ix.2.2.2.2.2.1]
  refine nm_e ⟨ix.2.2.2.2.1, nm_e ?_⟩
  have c0 : ¬ nI c ≤ 0 := nI_nle (by omega) (by omega)
  have m3 : ord = 0 ∨ ord = 1 ∨ ord = 2 := by omega
  rcases m3 with rfl | rfl | rfl
  · obtain ⟨rfl, rfl⟩ := o0 rfl
    exact ⟨1, br_f c0 (br_f (by decide) ⟨N + 1, yc_147 (A := 0) hj (by omega) hb hg (fun me2 cr2 a1 a2 a3 => ⟨1, br_f c0 (br_f (by decide) (h me2 cr2 ⟨a1, fun m hm => by omega⟩ (fun x hx => a2 x (by omega)) a3))⟩) N 0 (N + 1) me cr (by omega) (by omega) (fun m hm => by omega) (fun _ _ => ⟨rfl, rfl⟩) hB⟩)⟩
  · obtain ⟨rfl, rfl, rfl⟩ := o1 rfl
    refine ⟨1, br_f c0 (br_f (by decide) ⟨E + 1, yc_147 (A := 0) hj (by omega) hb hg (fun me2 cr2 a1 a2 a3 => ⟨K + 1, ?_⟩) E 0 (E + 1) me cr (by omega) (by omega) (fun m hm => by omega) (fun _ _ => ⟨rfl, rfl⟩) hB⟩)⟩
    have := yc_188 (post := post) (nn := nI (K + E)) (es := es) (tt := tt) (fr := nI E) (sY := sY) (tY := tY) (dy := dy) (dm := dm) (vc := upd vc j over) (ms := upd ms j (nI (K + E))) (me := me2) (cr := cr2) (hd := hd) (hN := hN) (ps := ps) (la := la) (ey := ey) (tn := tn) (tm := tm) (sn := sn) (sc := sc) (fn := fn) (fc := fc) (ls := ls) (st := st) (nm := nm) (pa := pa) (ve := ve) (sz := sz) (sm := sm) (it := it) (dr := dr) (th := th) (dl := dl) (j := j) (A := 0 + E) (K := K) hj (by omega) (fun m hm => by rw [(hV m hm).2]; exact hVB m hm) (fun me3 cr3 d1 d2 d3 => h me3 cr3 ⟨fun m hm => ?_, fun m hm => ?_⟩ (fun x hx => ?_) d3) K 0 (K + 1) me2 cr2 (by omega) (by omega) (fun m hm => by omega) (fun _ _ => ⟨rfl, rfl⟩) a3
    · exact this
    · rw [(d2 (5 * j + (0 + m)) (by omega)).1, (d2 (5 * j + (0 + m)) (by omega)).2]; exact a1 m hm
    · have e : 5 * j + (E + m) = 5 * j + (0 + E + m) := by omega
      rw [e, (d1 m hm).1, (d1 m hm).2]; exact hV m hm
    · rw [(d2 x (by omega)).1, (d2 x (by omega)).2]; exact a2 x (by omega)
  · obtain ⟨rfl, rfl, rfl⟩ := o2 rfl
    refine ⟨F + 1, ?_⟩
    have := yc_96 (post := post) (nn := nI (F + N)) (b := b) (es := es) (tt := tt) (fr := nI N) (sY := sY) (tY := tY) (dy := dy) (dm := dm) (vc := upd vc j over) (ms := upd ms j (nI (F + N))) (me := me) (cr := cr) (hd := hd) (hN := hN) (ps := ps) (la := la) (ey := ey) (tn := tn) (tm := tm) (sn := sn) (sc := sc) (fn := fn) (fc := fc) (ls := ls) (st := st) (nm := nm) (pa := pa) (ve := ve) (sz := sz) (sm := sm) (it := it) (dr := dr) (th := th) (dl := dl) (j := j) (K := F) hj (by omega) (fun m hm => by rw [(hV m hm).2]; exact hVB m hm)
      (fun me2 cr2 a1 a2 a3 => ⟨N + 1, yc_147 (A := F) hj (by omega) hb hg (fun me3 cr3 d1 d2 d3 => ⟨1, br_f c0 (br_f (by decide) (h me3 cr3 ⟨d1, fun m hm => ?_⟩ (fun x hx => ?_) d3))⟩) N 0 (N + 1) me2 cr2 (by omega) (by omega) (fun m hm => by omega) (fun _ _ => ⟨rfl, rfl⟩) a3⟩) F 0 (F + 1) me cr (by omega) (by omega) (fun m hm => by omega) (fun _ _ => ⟨rfl, rfl⟩) hB
    · exact this
    · have e : 5 * j + (0 + m) = 5 * j + m := by omega
      rw [e, (d2 (5 * j + m) (by omega)).1, (d2 (5 * j + m) (by omega)).2, (a1 m hm).1, (a1 m hm).2]; exact hV m hm
    · rw [(d2 x (by omega)).1, (d2 x (by omega)).2]; exact a2 x (by omega)
end
