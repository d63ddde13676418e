section
variable {ls tl ec kc : Int32} {st dr nm pa ve sz it sm hl th sp tb dl dn cc cv mn mc oc on om op tr el cm : Nat → Int32} {es tt se fr : Int32} {sY tY dy dm vc ms me cr hd hN ps la ey tn tm sn sc fn fc : Nat → Int32} {s s' t t' : Nat → Nat} {sx : Nat → Int32}
theorem bt_wf_R (R : bt_R st dr nm pa sz th dl sp tb dn cc cv mn mc oc on om op sY tY dy dm vc ms me cr hd hN ps la s s' t t') : bt_wf th dl sp tb dn cc cv mn oc on s t := by
  intro p hp tp
  obtain ⟨RA, B1, B2, RS, RT, RP⟩ := R
  obtain ⟨hT, hC, hD⟩ := RP p hp tp
  obtain ⟨L, L1, L7, eL, d0, f⟩ := hT
  refine ⟨(RS.1 p hp).1, (RS.1 p hp).2.1, (RT.1 p hp).1, (RT.1 p hp).2.1, ⟨L, L7, eL, fun i hi => ?_⟩, fun k hk => ?_, fun k hk => ?_⟩
  · obtain ⟨_, n, hn, e, _⟩ := f i hi
    exact ⟨n, hn, e⟩
  · rcases hC k hk with ⟨u, _⟩ | ⟨c, c1, c5, u1, u2, u3, ⟨n, hn, en, _⟩, u5⟩
    · exact Or.inl u
    · refine Or.inr ⟨c, c1, c5, u1, ⟨n, hn, en⟩, fun m hm => ?_⟩
      obtain ⟨_, _, n2, hn2, en2, _⟩ := u5 m hm
      exact ⟨n2, hn2, en2⟩
  · obtain ⟨c, c5, u1, u2, u3, _⟩ := hD k hk
    refine ⟨c, c5, u1, fun m hm => ?_⟩
    obtain ⟨_, n2, hn2, en2, _⟩ := u3 m hm
    exact ⟨n2, hn2, en2⟩
theorem bt_ej {x y : Nat} {z : Int32} (hx : x < 48) (hy : y < 48) (e : z = nI y) : z = nI x ↔ y = x := by
  rw [e]; exact nI_eq (by omega) (by omega)
variable {post : Int32 → Prop}
/-- the descriptors of a table -/
theorem yy_h3_l {p x i j c : Nat} {J : Int32 → Prop} (hj : j < 16) (hc : c ≤ 5) (e1 : oc i = nI c) (e2 : hd j = nI c) (hn : ∀ m, m < c → on (5 * i + m) = hN (5 * j + m))
    (h1 : bt_hj oc on i x → post 1) (h0 : ¬ bt_hj oc on i x → J (nI (j + 1))) :
    ∀ (e m n : Nat), m + e = c → e < n → (∀ m', m' < m → ¬ on (5 * i + m') = nI x) → wY_holds_151 post J (nI p) (nI x) (nI j) ls es tt se fr sx nm pa ve sz sm it dr th sY tY dl dy dm vc ms me cr hd hN ps la ey tn tm sn sc fn fc n (nI m) := by
  have ix := bt_ix16 hj
  intro e
  induction e with
  | zero =>
    intro m n hm hn' no
    obtain ⟨n, rfl⟩ : ∃ n', n = n' + 1 := ⟨n - 1, by omega⟩
    have : m = c := by omega
    subst this
    refine ⟨ix.2.2.2.2.1, br_t ?_ (nm_r (nI_1 _) (h0 ?_))⟩
    · rw [ix.2.2.2.2.2.1, e2]; exact Int32.le_refl _
    · rintro ⟨c2, c52, ec2, m2, hm2, em2⟩
      have : c2 = m := bt_inj (by omega) (by omega) (ec2.symm.trans e1)
      exact no m2 (by omega) em2
  | succ e ih =>
    intro m n hm hn' no
    obtain ⟨n, rfl⟩ : ∃ n', n = n' + 1 := ⟨n - 1, by omega⟩
    have iy := bt_ix80 (q := 5 * j + m) (by omega)
    have e5 : 5 * nI j + nI m = nI (5 * j + m) := by rw [bt_5m, nI_add]
    refine ⟨ix.2.2.2.2.1, ?_⟩
    rw [ix.2.2.2.2.2.1, e2, e5, iy.2.2.2.2.2.1, ← hn m (by omega)]
    refine br_f (nI_ge (by omega) (by omega)) ⟨iy.2.2.2.2.1, br_c (fun z => h1 ⟨c, hc, e1, m, by omega, z⟩) (fun z => nm_r (nI_1 _) (ih (m + 1) n (by omega) (by omega) (fun m' hm' => ?_)))⟩
    by_cases y : m' = m
    · rw [y]; exact z
    · exact no m' (by omega)
theorem yy_h3 {p x a b : Nat} (hp : p < 4) (hb : b < 4) (sb : tY p = nI b) (hD : ∀ k, k < 4 → bt_D st dr sz oc on om op hd hN ps la (4 * a + k) (4 * b + k))
    (h1 : bt_ht oc on a x → post 1) (h0 : ¬ bt_ht oc on a x → post 0) :
    ∀ (e k n : Nat), k + e = 4 → e < n → (∀ k', k' < k → ¬ bt_hj oc on (4 * a + k') x) → wY_holds_134 post (nI p) (nI x) ls es tt se fr sx nm pa ve sz sm it dr th sY tY dl dy dm vc ms me cr hd hN ps la ey tn tm sn sc fn fc n (nI (4 * b + k)) := by
  have ip := bt_ix4 hp
  have lim : 4 * nI b + 4 = nI (4 * b + 4) := by rw [bt_4m, bt_p4]
  intro e
  induction e with
  | zero =>
    intro k n hk hn' no
    obtain ⟨n, rfl⟩ : ∃ n', n = n' + 1 := ⟨n - 1, by omega⟩
    have : k = 4 := by omega
    subst this
    refine ⟨ip.2.2.2.2.1, br_t ?_ (h0 ?_)⟩
    · rw [ip.2.2.2.2.2.1, sb, lim]; exact Int32.le_refl _
    · rintro ⟨k', hk', w⟩
      exact no k' hk' w
  | succ e ih =>
    intro k n hk hn' no
    obtain ⟨n, rfl⟩ : ∃ n', n = n' + 1 := ⟨n - 1, by omega⟩
    obtain ⟨c, c5, u1, u2, u3, _⟩ := hD k (by omega)
    refine ⟨ip.2.2.2.2.1, br_f ?_ ⟨c + 1, yy_h3_l (by omega) c5 u1 u2 (fun m hm => (u3 m hm).1) (fun w => h1 ⟨k, by omega, w⟩) (fun w => ih (k + 1) n (by omega) (by omega) (fun k' hk' => ?_)) c 0 (c + 1) (by omega) (by omega) (fun m hm => by omega)⟩⟩
    · rw [ip.2.2.2.2.2.1, sb, lim]; exact nI_ge (by omega) (by omega)
    · by_cases y : k' = k
      · rw [y]; exact w
      · exact no k' (by omega)
theorem yy_h2_l {p x i j c : Nat} {J : Int32 → Prop} (hj : j < 24) (c1 : 1 ≤ c) (hc : c ≤ 5) (e1 : cc i = nI c) (e2 : ms j = nI c) (hv : ¬ vc j < 0) (hn : ∀ m, m < c → mn (5 * i + m) = me (5 * j + m)) (ncv : ¬ cv i = nI x)
    (h1 : bt_hk cc cv mn i x → post 1) (h0 : ¬ bt_hk cc cv mn i x → J (nI (j + 1))) :
    ∀ (e m n : Nat), m + e = c → e < n → (∀ m', m' < m → ¬ mn (5 * i + m') = nI x) → wY_holds_76 post J (nI p) (nI x) (nI j) ls es tt se fr sx nm pa ve sz sm it dr th sY tY dl dy dm vc ms me cr hd hN ps la ey tn tm sn sc fn fc n (nI m) := by
  have ix := bt_ix24 hj
  intro e
  induction e with
  | zero =>
    intro m n hm hn' no
    obtain ⟨n, rfl⟩ : ∃ n', n = n' + 1 := ⟨n - 1, by omega⟩
    have : m = c := by omega
    subst this
    refine ⟨ix.2.2.2.2.1, br_f ?_ ⟨ix.2.2.2.2.1, br_t ?_ (nm_r (nI_1 _) (h0 ?_))⟩⟩
    · rw [ix.2.2.2.2.2.1]; exact hv
    · rw [ix.2.2.2.2.2.1, e2]; exact Int32.le_refl _
    · rintro ⟨c2, _, c52, ec2, w | ⟨m2, hm2, em2⟩⟩
      · exact ncv w
      · have : c2 = m := bt_inj (by omega) (by omega) (ec2.symm.trans e1)
        exact no m2 (by omega) em2
  | succ e ih =>
    intro m n hm hn' no
    obtain ⟨n, rfl⟩ : ∃ n', n = n' + 1 := ⟨n - 1, by omega⟩
    have iy := bt_ix120 (q := 5 * j + m) (by omega)
    have e5 : 5 * nI j + nI m = nI (5 * j + m) := by rw [bt_5m, nI_add]
    refine ⟨ix.2.2.2.2.1, ?_⟩
    rw [ix.2.2.2.2.2.1, e2, e5, iy.2.2.2.2.2.1, ← hn m (by omega)]
    refine br_f hv ⟨ix.2.2.2.2.1, br_f (nI_ge (by omega) (by omega)) ⟨iy.2.2.2.2.1, br_c (fun z => h1 ⟨c, c1, hc, e1, Or.inr ⟨m, by omega, z⟩⟩) (fun z => nm_r (nI_1 _) (ih (m + 1) n (by omega) (by omega) (fun m' hm' => ?_)))⟩⟩
    by_cases y : m' = m
    · rw [y]; exact z
    · exact no m' (by omega)
theorem yy_h2 {p x a b t0 : Nat} (hp : p < 4) (hb : b < 4) (sb : sY p = nI b) (ht0 : t0 < 4) (tb0 : tY p = nI t0) (hx : x < 48) (hC : ∀ k, k < 6 → bt_C st cc cv mn mc vc ms me cr (6 * a + k) (6 * b + k))
    (h1 : bt_hs cc cv mn a x → post 1) (h0 : ¬ bt_hs cc cv mn a x → ∃ n, wY_holds_134 post (nI p) (nI x) ls es tt se fr sx nm pa ve sz sm it dr th sY tY dl dy dm vc ms me cr hd hN ps la ey tn tm sn sc fn fc n (nI (4 * t0))) :
    ∀ (e k n : Nat), k + e = 6 → e < n → (∀ k', k' < k → ¬ bt_hk cc cv mn (6 * a + k') x) → wY_holds_45 post (nI p) (nI x) ls es tt se fr sx nm pa ve sz sm it dr th sY tY dl dy dm vc ms me cr hd hN ps la ey tn tm sn sc fn fc n (nI (6 * b + k)) := by
  have ip := bt_ix4 hp
  have lim : 6 * nI b + 6 = nI (6 * b + 6) := by rw [bt_6m, bt_p6]
  intro e
  induction e with
  | zero =>
    intro k n hk hn' no
    obtain ⟨n, rfl⟩ : ∃ n', n = n' + 1 := ⟨n - 1, by omega⟩
    have : k = 6 := by omega
    subst this
    refine ⟨ip.2.2.2.2.1, br_t ?_ ⟨ip.2.2.2.2.1, nm_r (show _ = nI (4 * t0) from ?_) (h0 ?_)⟩⟩
    · rw [ip.2.2.2.2.2.1, sb, lim]; exact Int32.le_refl _
    · rw [ip.2.2.2.2.2.1, tb0, bt_4m]
    · rintro ⟨k', hk', w⟩
      exact no k' hk' w
  | succ e ih =>
    intro k n hk hn' no
    obtain ⟨n, rfl⟩ : ∃ n', n = n' + 1 := ⟨n - 1, by omega⟩
    have ix := bt_ix24 (q := 6 * b + k) (by omega)
    have nx : ¬ bt_hk cc cv mn (6 * a + k) x → wY_holds_45 post (nI p) (nI x) ls es tt se fr sx nm pa ve sz sm it dr th sY tY dl dy dm vc ms me cr hd hN ps la ey tn tm sn sc fn fc n (nI (6 * b + k + 1)) := by
      intro w
      refine ih (k + 1) n (by omega) (by omega) (fun k' hk' => ?_)
      by_cases y : k' = k
      · rw [y]; exact w
      · exact no k' (by omega)
    refine ⟨ip.2.2.2.2.1, br_f ?_ ⟨ix.2.2.2.2.1, ?_⟩⟩
    · rw [ip.2.2.2.2.2.1, sb, lim]; exact nI_ge (by omega) (by omega)
    rw [ix.2.2.2.2.2.1]
    rcases hC k (by omega) with ⟨u, w⟩ | ⟨c, c1, c5, u1, u2, u3, ⟨q, hq, eq, _⟩, u5⟩
    · refine br_f (fun z => bt_neg (n := x) (by omega) (z.symm.trans w)) ⟨1, ⟨ix.2.2.2.2.1, br_t ?_ (nm_r (nI_1 _) (nx ?_))⟩⟩
      · rw [ix.2.2.2.2.2.1, w]; decide
      · rintro ⟨c2, c12, _, ec2, _⟩
        exact nI_ne0 (by omega) (by omega) (ec2.symm.trans u)
    · refine br_c (fun z => h1 ⟨k, by omega, c, c1, c5, u1, Or.inl (u3.trans z)⟩) (fun z => ⟨c + 1, yy_h2_l (by omega) c1 c5 u1 u2 ?_ (fun m hm => (u5 m hm).1) (fun y => z (u3.symm.trans y)) (fun w => h1 ⟨k, by omega, w⟩) nx c 0 (c + 1) (by omega) (by omega) (fun m hm => by omega)⟩)
      rw [← u3, eq]; exact nI_pos (by omega)
theorem yy_h1 {p x : Nat} (R : bt_R st dr nm pa sz th dl sp tb dn cc cv mn mc oc on om op sY tY dy dm vc ms me cr hd hN ps la s s' t t') (hp : p < 4) (tp : th p ≠ 0) (hx : x < 48)
    (h1 : bt_h1 dl dn cc cv mn oc on p (s p) (t p) x → post 1) (h0 : ¬ bt_h1 dl dn cc cv mn oc on p (s p) (t p) x → post 0) : wpY_holds post (ls, es, tt, se, fr, sx, nm, pa, ve, sz, sm, it, dr, th, sY, tY, dl, dy, dm, vc, ms, me, cr, hd, hN, ps, la, ey, tn, tm, sn, sc, fn, fc) (nI p) (nI x) := by
  obtain ⟨RA, B1, B2, RS, RT, RP⟩ := R
  obtain ⟨hT, hC, hD⟩ := RP p hp tp
  obtain ⟨L, L1, L7, eL, d0, f⟩ := hT
  obtain ⟨_, _, sb, hb⟩ := RS.1 p hp
  obtain ⟨_, _, tb0, ht0⟩ := RT.1 p hp
  have ip := bt_ix4 hp
  have key : ∀ (e i n : Nat), i + e = L → e < n → (∀ j, j < i → ¬ dn (7 * p + j) = nI x) → wY_holds_2 post (nI p) (nI x) ls es tt se fr sx nm pa ve sz sm it dr th sY tY dl dy dm vc ms me cr hd hN ps la ey tn tm sn sc fn fc n (nI i) := by
    intro e
    induction e with
    | zero =>
      intro i n hi hn no
      obtain ⟨n, rfl⟩ : ∃ n', n = n' + 1 := ⟨n - 1, by omega⟩
      have : i = L := by omega
      subst this
      refine ⟨ip.2.2.2.2.1, br_t ?_ ⟨ip.2.2.2.2.1, nm_r (show _ = nI (6 * s' p) from ?_) ⟨7, yy_h2 hp hb sb ht0 tb0 hx hC (fun w => h1 (Or.inr (Or.inl w))) (fun w2 => ⟨5, yy_h3 hp ht0 tb0 hD (fun w => h1 (Or.inr (Or.inr w))) (fun w3 => h0 ?_) 4 0 5 rfl (by omega) (fun k hk => by omega)⟩) 6 0 7 rfl (by omega) (fun k hk => by omega)⟩⟩⟩
      · rw [ip.2.2.2.2.2.1, eL]; exact Int32.le_refl _
      · rw [ip.2.2.2.2.2.1, sb, bt_6m]
      · rintro (⟨j, L2, hj, _, eL2, ej⟩ | w | w)
        · have : L2 = i := bt_inj (by omega) (by omega) (eL2.symm.trans eL)
          exact no j (by omega) ej
        · exact w2 w
        · exact w3 w
    | succ e ih =>
      intro i n hi hn no
      obtain ⟨n, rfl⟩ : ∃ n', n = n' + 1 := ⟨n - 1, by omega⟩
      have iy := bt_ix28 (q := 7 * p + i) (by omega)
      have e7 : 7 * nI p + nI i = nI (7 * p + i) := by rw [bt_7m, nI_add]
      refine ⟨ip.2.2.2.2.1, ?_⟩
      rw [ip.2.2.2.2.2.1, eL, e7, iy.2.2.2.2.2.1, ← (f i (by omega)).1]
      refine br_f (nI_ge (by omega) (by omega)) ⟨iy.2.2.2.2.1, br_c (fun z => h1 (Or.inl ⟨i, L, by omega, L7, eL, z⟩)) (fun z => nm_r (nI_1 _) (ih (i + 1) n (by omega) (by omega) (fun j hj => ?_)))⟩
      by_cases y : j = i
      · rw [y]; exact z
      · exact no j (by omega)
  exact ⟨L + 1, key L 0 (L + 1) (by omega) (by omega) (fun j hj => by omega)⟩
theorem yy_isHeld {x : Nat} (R : bt_R st dr nm pa sz th dl sp tb dn cc cv mn mc oc on om op sY tY dy dm vc ms me cr hd hN ps la s s' t t') (hx : x < 48)
    (h1 : bt_H th dl dn cc cv mn oc on s t x → post 1) (h0 : ¬ bt_H th dl dn cc cv mn oc on s t x → post 0) : wpY_isHeld post (ls, es, tt, se, fr, sx, nm, pa, ve, sz, sm, it, dr, th, sY, tY, dl, dy, dm, vc, ms, me, cr, hd, hN, ps, la, ey, tn, tm, sn, sc, fn, fc) (nI x) := by
  have key : ∀ (e i n : Nat), i + e = 4 → e < n → (∀ p, p < i → th p ≠ 0 → ¬ bt_h1 dl dn cc cv mn oc on p (s p) (t p) x) → wY_isHeld_2 post (nI x) ls es tt se fr sx nm pa ve sz sm it dr th sY tY dl dy dm vc ms me cr hd hN ps la ey tn tm sn sc fn fc n (nI i) := by
    intro e
    induction e with
    | zero =>
      intro i n hi hn no
      obtain ⟨n, rfl⟩ : ∃ n', n = n' + 1 := ⟨n - 1, by omega⟩
      have : i = 4 := by omega
      subst this
      exact br_t (by decide) (h0 (fun ⟨p, hp, tp, w⟩ => no p hp tp w))
    | succ e ih =>
      intro i n hi hn no
      obtain ⟨n, rfl⟩ : ∃ n', n = n' + 1 := ⟨n - 1, by omega⟩
      have ix := bt_ix4 (q := i) (by omega)
      refine br_f ix.2.2.2.1 ⟨ix.2.2.2.2.1, ?_⟩
      rw [ix.2.2.2.2.2.1]
      refine br_c (fun z => nm_r (nI_1 _) (ih (i + 1) n (by omega) (by omega) (fun p hp tp => ?_))) (fun z => yy_h1 R (by omega) z hx (fun w => br_f (by decide) (h1 ⟨i, by omega, z, w⟩)) (fun w => br_t rfl (nm_r (nI_1 _) (ih (i + 1) n (by omega) (by omega) (fun p hp tp => ?_)))))
      · have : p ≠ i := fun y => by subst y; exact tp z
        exact no p (by omega) tp
      · by_cases y : p = i
        · rw [y]; exact w
        · exact no p (by omega) tp
  exact ⟨5, key 4 0 5 rfl (by omega) (fun p hp => by omega)⟩
theorem yy_sw {post : SY → Prop} (R : bt_R st dr nm pa sz th dl sp tb dn cc cv mn mc oc on om op sY tY dy dm vc ms me cr hd hN ps la s s' t t') (h : ∀ st2, bt_sw st (bt_H th dl dn cc cv mn oc on s t) st2 → post (ls, es, tt, se, fr, st2, nm, pa, ve, sz, sm, it, dr, th, sY, tY, dl, dy, dm, vc, ms, me, cr, hd, hN, ps, la, ey, tn, tm, sn, sc, fn, fc)) : wpY_sweep post (ls, es, tt, se, fr, st, nm, pa, ve, sz, sm, it, dr, th, sY, tY, dl, dy, dm, vc, ms, me, cr, hd, hN, ps, la, ey, tn, tm, sn, sc, fn, fc) := by
  have key : ∀ (e i n : Nat) (sx : Nat → Int32), 3 ≤ i → i + e = 48 → e < n → (∀ j, (3 ≤ j ∧ j < i ∧ st j = 2 ∧ ¬ bt_H th dl dn cc cv mn oc on s t j → sx j = 0) ∧ (¬ (3 ≤ j ∧ j < i ∧ st j = 2 ∧ ¬ bt_H th dl dn cc cv mn oc on s t j) → sx j = st j)) → wY_sweep_2 post ls es tt se fr n (nI i) sx nm pa ve sz sm it dr th sY tY dl dy dm vc ms me cr hd hN ps la ey tn tm sn sc fn fc := by
    intro e
    induction e with
    | zero =>
      intro i n sx h3 hi hn hs
      obtain ⟨n, rfl⟩ : ∃ n', n = n' + 1 := ⟨n - 1, by omega⟩
      have : i = 48 := by omega
      subst this
      exact br_t (by decide) (h sx hs)
    | succ e ih =>
      intro i n sx h3 hi hn hs
      obtain ⟨n, rfl⟩ : ∃ n', n = n' + 1 := ⟨n - 1, by omega⟩
      have ix := bt_ix48 (q := i) (by omega)
      have si : sx i = st i := (hs i).2 (fun z => by omega)
      have keep : ¬ (st i = 2 ∧ ¬ bt_H th dl dn cc cv mn oc on s t i) → wY_sweep_2 post ls es tt se fr n (nI (i + 1)) sx nm pa ve sz sm it dr th sY tY dl dy dm vc ms me cr hd hN ps la ey tn tm sn sc fn fc := by
        intro z
        refine ih (i + 1) n sx (by omega) (by omega) (by omega) (fun j => ⟨fun w => ?_, fun w => ?_⟩)
        · by_cases y : j = i
          · subst y; exact absurd w.2.2 z
          · exact (hs j).1 ⟨w.1, by omega, w.2.2⟩
        · exact (hs j).2 (fun y => w ⟨y.1, by omega, y.2.2⟩)
      refine br_f ix.2.2.2.1 ⟨ix.2.2.2.2.1, ?_⟩
      rw [ix.2.2.2.2.2.1, si]
      refine br_c (fun z2 => yy_isHeld R (by omega) (fun w => br_f (by decide) (nm_r (nI_1 _) (keep (fun y => y.2 w)))) (fun nH => br_t rfl ⟨ix.2.2.2.2.1, nm_e (nm_r (nI_1 _) (ih (i + 1) n _ (by omega) (by omega) (by omega) (fun j => ⟨fun w => ?_, fun w => ?_⟩)))⟩)) (fun z2 => nm_r (nI_1 _) (keep (fun w => z2 w.1)))
      · by_cases y : j = i
        · rw [y, pk_us]
        · rw [pk_un y]; exact (hs j).1 ⟨w.1, by omega, w.2.2⟩
      · have y : j ≠ i := fun y => by subst y; exact w ⟨h3, by omega, z2, nH⟩
        rw [pk_un y]; exact (hs j).2 (fun y => w ⟨y.1, by omega, y.2.2⟩)
  exact ⟨46, key 45 3 46 st (by omega) rfl (by omega) (fun j => ⟨fun w => by omega, fun _ => rfl⟩)⟩
end
