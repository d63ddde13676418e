def bt_hk (cc cv mn : Nat → Int32) (i x : Nat) : Prop := ∃ c, 1 ≤ c ∧ c ≤ 5 ∧ cc i = nI c ∧ (cv i = nI x ∨ ∃ m, m < c ∧ mn (5 * i + m) = nI x)
def bt_hj (oc on : Nat → Int32) (i x : Nat) : Prop := ∃ c, c ≤ 5 ∧ oc i = nI c ∧ ∃ m, m < c ∧ on (5 * i + m) = nI x
def bt_mk (hl : Nat → Int32) (P : Nat → Prop) : Prop := ∀ x, x < 48 → (¬ hl x = 0 ↔ P x)
theorem bt_mk_s {hl : Nat → Int32} {q : Nat} {Q Q' : Nat → Prop} (h : bt_mk hl Q) (hQ : ∀ x, x < 48 → (Q' x ↔ Q x ∨ x = q)) : bt_mk (upd hl q (vp_nar .boolean 1)) Q' := by
  intro x hx
  rw [hQ x hx, bt_n1]
  by_cases e : x = q
  · rw [e, pk_us]; exact ⟨fun _ => Or.inr rfl, fun _ => by decide⟩
  · rw [pk_un e]
    exact ⟨fun z => Or.inl ((h x hx).mp z), fun z => z.elim (h x hx).mpr (fun y => absurd y e)⟩
theorem bt_mk_c {hl : Nat → Int32} {Q Q' : Nat → Prop} (h : bt_mk hl Q) (hQ : ∀ x, x < 48 → (Q x ↔ Q' x)) : bt_mk hl Q' :=
  fun x hx => (h x hx).trans (hQ x hx)
/-- one more of a run of numbers -/
theorem bt_ex_s {P : Prop} {f : Nat → Int32} {i b q x : Nat} (e : f (b + i) = nI q) (hq : q < 48) (hx : x < 48) :
    (P ∨ ∃ j, j < i + 1 ∧ f (b + j) = nI x) ↔ (P ∨ ∃ j, j < i ∧ f (b + j) = nI x) ∨ x = q := by
  constructor
  · rintro (p | ⟨j, hj, ej⟩)
    · exact Or.inl (Or.inl p)
    · by_cases w : j = i
      · subst w
        exact Or.inr (bt_inj (by omega) (by omega) (ej.symm.trans e))
      · exact Or.inl (Or.inr ⟨j, by omega, ej⟩)
  · rintro ((p | ⟨j, hj, ej⟩) | rfl)
    · exact Or.inl p
    · exact Or.inr ⟨j, by omega, ej⟩
    · exact Or.inr ⟨i, by omega, e⟩
theorem bt_ex_0 {P : Prop} {f : Nat → Int32} {b x : Nat} : P ↔ (P ∨ ∃ j, j < 0 ∧ f (b + j) = nI x) :=
  ⟨Or.inl, fun z => z.elim id (fun ⟨j, hj, _⟩ => by omega)⟩
section
variable {ls tl ec kc : Int32} {st dr nm pa ve sz it sm hl th sp tb dl dn cc cv mn mc oc on om op tr el cm : Nat → Int32} {post : SX → Prop} {P : Nat → Prop} {s t : Nat → Nat}
theorem xx_hd_l {p L : Nat} (hp : p < 4) (hL : L ≤ 7) (el0 : dl p = nI L) (hn : ∀ i, i < L → ∃ n, n < 48 ∧ dn (7 * p + i) = nI n)
    (h : ∀ hl2, bt_mk hl2 (fun x => P x ∨ ∃ j, j < L ∧ dn (7 * p + j) = nI x) → post (ls, tl, ec, kc, st, dr, nm, pa, ve, sz, it, sm, hl2, th, sp, tb, dl, dn, cc, cv, mn, mc, oc, on, om, op, tr, el, cm)) :
    ∀ (e i n : Nat) (hl : Nat → Int32), i + e = L → e < n → bt_mk hl (fun x => P x ∨ ∃ j, j < i ∧ dn (7 * p + j) = nI x) → wX_holdDot_2 post (nI p) ls tl ec kc n (nI i) st dr nm pa ve sz it sm hl th sp tb dl dn cc cv mn mc oc on om op tr el cm := by
  have ip := bt_ix4 hp
  intro e
  induction e with
  | zero =>
    intro i n hl hi hn' hm
    obtain ⟨n, rfl⟩ : ∃ n', n = n' + 1 := ⟨n - 1, by omega⟩
    have : i = L := by omega
    subst this
    refine ⟨ip.2.2.2.2.1, br_t ?_ (h _ hm)⟩
    rw [ip.2.2.2.2.2.1, el0]; exact Int32.le_refl _
  | succ e ih =>
    intro i n hl hi hn' hm
    obtain ⟨n, rfl⟩ : ∃ n', n = n' + 1 := ⟨n - 1, by omega⟩
    have iy := bt_ix28 (q := 7 * p + i) (by omega)
    have e7 : nI p * 7 + nI i = nI (7 * p + i) := by rw [bt_m7, nI_add]
    obtain ⟨q, hq, eq⟩ := hn i (by omega)
    have iq := bt_ix48 hq
    refine ⟨ip.2.2.2.2.1, ?_⟩
    rw [ip.2.2.2.2.2.1, el0, e7, iy.2.2.2.2.2.1, eq, iq.2.2.2.2.2.1]
    exact br_f (nI_ge (by omega) (by omega)) ⟨iy.2.2.2.2.1, iq.2.2.2.2.1, nm_e (nm_r (nI_1 _) (ih (i + 1) n _ (by omega) (by omega) (bt_mk_s hm (fun x hx => bt_ex_s eq hq hx))))⟩
theorem xx_hd {p L : Nat} (hp : p < 4) (hL : L ≤ 7) (el0 : dl p = nI L) (hn : ∀ i, i < L → ∃ n, n < 48 ∧ dn (7 * p + i) = nI n) (hm : bt_mk hl P)
    (h : ∀ hl2, bt_mk hl2 (fun x => P x ∨ bt_hd dl dn p x) → post (ls, tl, ec, kc, st, dr, nm, pa, ve, sz, it, sm, hl2, th, sp, tb, dl, dn, cc, cv, mn, mc, oc, on, om, op, tr, el, cm)) : wpX_holdDot post (ls, tl, ec, kc, st, dr, nm, pa, ve, sz, it, sm, hl, th, sp, tb, dl, dn, cc, cv, mn, mc, oc, on, om, op, tr, el, cm) (nI p) := by
  refine ⟨L + 1, xx_hd_l hp hL el0 hn (fun hl2 h2 => h hl2 (bt_mk_c h2 (fun x hx => ?_))) L 0 (L + 1) hl (by omega) (by omega) (bt_mk_c hm (fun x hx => bt_ex_0))⟩
  constructor
  · rintro (z | ⟨j, hj, ej⟩)
    · exact Or.inl z
    · exact Or.inr ⟨j, L, hj, hL, el0, ej⟩
  · rintro (z | ⟨j, L2, hj, hL2, el2, ej⟩)
    · exact Or.inl z
    · have : L2 = L := bt_inj (by omega) (by omega) (el2.symm.trans el0)
      exact Or.inr ⟨j, by omega, ej⟩
theorem xx_hs_a {J : Int32 → (Nat → Int32) → (Nat → Int32) → (Nat → Int32) → (Nat → Int32) → (Nat → Int32) → (Nat → Int32) → (Nat → Int32) → (Nat → Int32) → (Nat → Int32) → (Nat → Int32) → (Nat → Int32) → (Nat → Int32) → (Nat → Int32) → (Nat → Int32) → (Nat → Int32) → (Nat → Int32) → (Nat → Int32) → (Nat → Int32) → (Nat → Int32) → (Nat → Int32) → (Nat → Int32) → (Nat → Int32) → (Nat → Int32) → (Nat → Int32) → (Nat → Int32) → Prop} {i c : Nat} {x1 : Int32} (hi : i < 24) (hc : c ≤ 5) (ec0 : cc i = nI c) (hn : ∀ m, m < c → ∃ n, n < 48 ∧ mn (5 * i + m) = nI n)
    (h : ∀ hl2, bt_mk hl2 (fun x => P x ∨ ∃ m, m < c ∧ mn (5 * i + m) = nI x) → J (nI (i + 1)) st dr nm pa ve sz it sm hl2 th sp tb dl dn cc cv mn mc oc on om op tr el cm) :
    ∀ (e m n : Nat) (hl : Nat → Int32), m + e = c → e < n → bt_mk hl (fun x => P x ∨ ∃ j, j < m ∧ mn (5 * i + j) = nI x) → wX_holdSpace_38 post J x1 (nI i) ls tl ec kc n (nI m) st dr nm pa ve sz it sm hl th sp tb dl dn cc cv mn mc oc on om op tr el cm := by
  have ix := bt_ix24 hi
  intro e
  induction e with
  | zero =>
    intro m n hl hi2 hn' hm
    obtain ⟨n, rfl⟩ : ∃ n', n = n' + 1 := ⟨n - 1, by omega⟩
    have : m = c := by omega
    subst this
    refine ⟨ix.2.2.2.2.1, br_t ?_ (nm_r (nI_1 _) (h _ hm))⟩
    rw [ix.2.2.2.2.2.1, ec0]; exact Int32.le_refl _
  | succ e ih =>
    intro m n hl hi2 hn' hm
    obtain ⟨n, rfl⟩ : ∃ n', n = n' + 1 := ⟨n - 1, by omega⟩
    have iy := bt_ix120 (q := 5 * i + m) (by omega)
    have e5 : nI i * 5 + nI m = nI (5 * i + m) := by rw [bt_m5, nI_add]
    obtain ⟨q, hq, eq⟩ := hn m (by omega)
    have iq := bt_ix48 hq
    refine ⟨ix.2.2.2.2.1, ?_⟩
    rw [ix.2.2.2.2.2.1, ec0, e5, iy.2.2.2.2.2.1, eq, iq.2.2.2.2.2.1]
    exact br_f (nI_ge (by omega) (by omega)) ⟨iy.2.2.2.2.1, iq.2.2.2.2.1, nm_e (nm_r (nI_1 _) (ih (m + 1) n _ (by omega) (by omega) (bt_mk_s hm (fun x hx => bt_ex_s eq hq hx))))⟩
/-- the covers of space a are in order -/
def bt_wC (cc cv mn : Nat → Int32) (a : Nat) : Prop := ∀ k, k < 6 → cc (6 * a + k) = 0 ∨ ∃ c, 1 ≤ c ∧ c ≤ 5 ∧ cc (6 * a + k) = nI c ∧ (∃ n, n < 48 ∧ cv (6 * a + k) = nI n) ∧ ∀ m, m < c → ∃ n, n < 48 ∧ mn (5 * (6 * a + k) + m) = nI n
theorem xx_hs_l {a : Nat} (ha : a < 4) (hw : bt_wC cc cv mn a)
    (h : ∀ hl2, bt_mk hl2 (fun x => P x ∨ bt_hs cc cv mn a x) → post (ls, tl, ec, kc, st, dr, nm, pa, ve, sz, it, sm, hl2, th, sp, tb, dl, dn, cc, cv, mn, mc, oc, on, om, op, tr, el, cm)) :
    ∀ (e k n : Nat) (hl : Nat → Int32), k + e = 6 → e < n → bt_mk hl (fun x => P x ∨ ∃ k', k' < k ∧ bt_hk cc cv mn (6 * a + k') x) → wX_holdSpace_5 post (nI a) ls tl ec kc n (nI (6 * a + k)) st dr nm pa ve sz it sm hl th sp tb dl dn cc cv mn mc oc on om op tr el cm := by
  have lim : (nI a + 1) * 6 = nI (6 * a + 6) := by rw [nI_1, bt_m6]; exact congrArg nI (by omega)
  intro e
  induction e with
  | zero =>
    intro k n hl hk hn' hm
    obtain ⟨n, rfl⟩ : ∃ n', n = n' + 1 := ⟨n - 1, by omega⟩
    have : k = 6 := by omega
    subst this
    refine br_t ?_ (h _ hm)
    rw [lim]; exact Int32.le_refl _
  | succ e ih =>
    intro k n hl hk hn' hm
    obtain ⟨n, rfl⟩ : ∃ n', n = n' + 1 := ⟨n - 1, by omega⟩
    have ix := bt_ix24 (q := 6 * a + k) (by omega)
    refine br_f ?_ ⟨ix.2.2.2.2.1, ?_⟩
    · rw [lim]; exact nI_ge (by omega) (by omega)
    rcases hw k (by omega) with z | ⟨c, c1, c5, z, ⟨q, hq, eq⟩, hn⟩
    · rw [ix.2.2.2.2.2.1, z]
      refine br_t (by decide) ⟨1, xx_hs_a (P := fun x => P x ∨ ∃ k', k' < k ∧ bt_hk cc cv mn (6 * a + k') x) (c := 0) (by omega) (by omega) z (fun m hm => by omega) (fun hl2 h2 => ih (k + 1) n hl2 (by omega) (by omega) (bt_mk_c h2 (fun x hx => ?_))) 0 0 1 hl rfl (by omega) (bt_mk_c hm (fun x hx => bt_ex_0))⟩
      constructor
      · rintro ((w | ⟨k', hk', w⟩) | ⟨m, hm, _⟩)
        · exact Or.inl w
        · exact Or.inr ⟨k', by omega, w⟩
        · omega
      · rintro (w | ⟨k', hk', w⟩)
        · exact Or.inl (Or.inl w)
        · by_cases y : k' = k
          · subst y
            obtain ⟨c, c1, _, e0, _⟩ := w
            exact absurd (z.symm.trans e0) (fun y => nI_ne0 (by omega) (by omega) y.symm)
          · exact Or.inl (Or.inr ⟨k', by omega, w⟩)
    · have iq := bt_ix48 hq
      have nz : ¬ nI c ≤ 0 := nI_nle (by omega) (by omega)
      rw [ix.2.2.2.2.2.1, z, eq, iq.2.2.2.2.2.1]
      refine br_f nz ⟨ix.2.2.2.2.1, iq.2.2.2.2.1, nm_e ⟨c + 1, xx_hs_a (P := fun x => (P x ∨ ∃ k', k' < k ∧ bt_hk cc cv mn (6 * a + k') x) ∨ x = q) (c := c) (by omega) c5 z hn (fun hl2 h2 => ih (k + 1) n hl2 (by omega) (by omega) (bt_mk_c h2 (fun x hx => ?_))) c 0 (c + 1) _ (by omega) (by omega) (bt_mk_c (bt_mk_s hm (fun x hx => Iff.rfl)) (fun x hx => bt_ex_0))⟩⟩
      constructor
      · rintro (((w | ⟨k', hk', w⟩) | w) | ⟨m, hm, w⟩)
        · exact Or.inl w
        · exact Or.inr ⟨k', by omega, w⟩
        · exact Or.inr ⟨k, by omega, c, c1, c5, z, Or.inl (by rw [w]; exact eq)⟩
        · exact Or.inr ⟨k, by omega, c, c1, c5, z, Or.inr ⟨m, hm, w⟩⟩
      · rintro (w | ⟨k', hk', w⟩)
        · exact Or.inl (Or.inl (Or.inl w))
        · by_cases y : k' = k
          · subst y
            obtain ⟨c2, c12, c52, e0, w⟩ := w
            have ecc : c2 = c := bt_inj (by omega) (by omega) (e0.symm.trans z)
            subst ecc
            rcases w with w | w
            · exact Or.inl (Or.inr (bt_inj (by omega) (by omega) (w.symm.trans eq)))
            · exact Or.inr w
          · exact Or.inl (Or.inl (Or.inr ⟨k', by omega, w⟩))
theorem xx_hs {a : Nat} (ha : a < 4) (hw : bt_wC cc cv mn a) (hm : bt_mk hl P)
    (h : ∀ hl2, bt_mk hl2 (fun x => P x ∨ bt_hs cc cv mn a x) → post (ls, tl, ec, kc, st, dr, nm, pa, ve, sz, it, sm, hl2, th, sp, tb, dl, dn, cc, cv, mn, mc, oc, on, om, op, tr, el, cm)) : wpX_holdSpace post (ls, tl, ec, kc, st, dr, nm, pa, ve, sz, it, sm, hl, th, sp, tb, dl, dn, cc, cv, mn, mc, oc, on, om, op, tr, el, cm) (nI a) :=
  nm_r (bt_m6 a) ⟨7, xx_hs_l ha hw h 6 0 7 hl rfl (by omega) (bt_mk_c hm (fun x hx => ⟨Or.inl, fun z => z.elim id (fun ⟨j, hj, _⟩ => by omega)⟩))⟩
theorem xx_ht_a {J : Int32 → (Nat → Int32) → (Nat → Int32) → (Nat → Int32) → (Nat → Int32) → (Nat → Int32) → (Nat → Int32) → (Nat → Int32) → (Nat → Int32) → (Nat → Int32) → (Nat → Int32) → (Nat → Int32) → (Nat → Int32) → (Nat → Int32) → (Nat → Int32) → (Nat → Int32) → (Nat → Int32) → (Nat → Int32) → (Nat → Int32) → (Nat → Int32) → (Nat → Int32) → (Nat → Int32) → (Nat → Int32) → (Nat → Int32) → (Nat → Int32) → (Nat → Int32) → Prop} {i c : Nat} {x1 : Int32} (hi : i < 16) (hc : c ≤ 5) (ec0 : oc i = nI c) (hn : ∀ m, m < c → ∃ n, n < 48 ∧ on (5 * i + m) = nI n)
    (h : ∀ hl2, bt_mk hl2 (fun x => P x ∨ ∃ m, m < c ∧ on (5 * i + m) = nI x) → J (nI (i + 1)) st dr nm pa ve sz it sm hl2 th sp tb dl dn cc cv mn mc oc on om op tr el cm) :
    ∀ (e m n : Nat) (hl : Nat → Int32), m + e = c → e < n → bt_mk hl (fun x => P x ∨ ∃ j, j < m ∧ on (5 * i + j) = nI x) → wX_holdTable_15 post J x1 (nI i) ls tl ec kc n (nI m) st dr nm pa ve sz it sm hl th sp tb dl dn cc cv mn mc oc on om op tr el cm := by
  have ix := bt_ix16 hi
  intro e
  induction e with
  | zero =>
    intro m n hl hi2 hn' hm
    obtain ⟨n, rfl⟩ : ∃ n', n = n' + 1 := ⟨n - 1, by omega⟩
    have : m = c := by omega
    subst this
    refine ⟨ix.2.2.2.2.1, br_t ?_ (nm_r (nI_1 _) (h _ hm))⟩
    rw [ix.2.2.2.2.2.1, ec0]; exact Int32.le_refl _
  | succ e ih =>
    intro m n hl hi2 hn' hm
    obtain ⟨n, rfl⟩ : ∃ n', n = n' + 1 := ⟨n - 1, by omega⟩
    have iy := bt_ix80 (q := 5 * i + m) (by omega)
    have e5 : nI i * 5 + nI m = nI (5 * i + m) := by rw [bt_m5, nI_add]
    obtain ⟨q, hq, eq⟩ := hn m (by omega)
    have iq := bt_ix48 hq
    refine ⟨ix.2.2.2.2.1, ?_⟩
    rw [ix.2.2.2.2.2.1, ec0, e5, iy.2.2.2.2.2.1, eq, iq.2.2.2.2.2.1]
    exact br_f (nI_ge (by omega) (by omega)) ⟨iy.2.2.2.2.1, iq.2.2.2.2.1, nm_e (nm_r (nI_1 _) (ih (m + 1) n _ (by omega) (by omega) (bt_mk_s hm (fun x hx => bt_ex_s eq hq hx))))⟩
def bt_wD (oc on : Nat → Int32) (a : Nat) : Prop := ∀ k, k < 4 → ∃ c, c ≤ 5 ∧ oc (4 * a + k) = nI c ∧ ∀ m, m < c → ∃ n, n < 48 ∧ on (5 * (4 * a + k) + m) = nI n
theorem xx_ht_l {a : Nat} (ha : a < 4) (hw : bt_wD oc on a)
    (h : ∀ hl2, bt_mk hl2 (fun x => P x ∨ bt_ht oc on a x) → post (ls, tl, ec, kc, st, dr, nm, pa, ve, sz, it, sm, hl2, th, sp, tb, dl, dn, cc, cv, mn, mc, oc, on, om, op, tr, el, cm)) :
    ∀ (e k n : Nat) (hl : Nat → Int32), k + e = 4 → e < n → bt_mk hl (fun x => P x ∨ ∃ k', k' < k ∧ bt_hj oc on (4 * a + k') x) → wX_holdTable_4 post (nI a) ls tl ec kc n (nI (4 * a + k)) st dr nm pa ve sz it sm hl th sp tb dl dn cc cv mn mc oc on om op tr el cm := by
  have lim : (nI a + 1) * 4 = nI (4 * a + 4) := by rw [nI_1, bt_m4]; exact congrArg nI (by omega)
  intro e
  induction e with
  | zero =>
    intro k n hl hk hn' hm
    obtain ⟨n, rfl⟩ : ∃ n', n = n' + 1 := ⟨n - 1, by omega⟩
    have : k = 4 := by omega
    subst this
    refine br_t ?_ (h _ hm)
    rw [lim]; exact Int32.le_refl _
  | succ e ih =>
    intro k n hl hk hn' hm
    obtain ⟨n, rfl⟩ : ∃ n', n = n' + 1 := ⟨n - 1, by omega⟩
    refine br_f ?_ ?_
    · rw [lim]; exact nI_ge (by omega) (by omega)
    obtain ⟨c, c5, z, hn⟩ := hw k (by omega)
    refine ⟨c + 1, xx_ht_a (P := fun x => P x ∨ ∃ k', k' < k ∧ bt_hj oc on (4 * a + k') x) (c := c) (by omega) c5 z hn (fun hl2 h2 => ih (k + 1) n hl2 (by omega) (by omega) (bt_mk_c h2 (fun x hx => ?_))) c 0 (c + 1) hl (by omega) (by omega) (bt_mk_c hm (fun x hx => bt_ex_0))⟩
    constructor
    · rintro ((w | ⟨k', hk', w⟩) | ⟨m, hm, w⟩)
      · exact Or.inl w
      · exact Or.inr ⟨k', by omega, w⟩
      · exact Or.inr ⟨k, by omega, c, c5, z, m, hm, w⟩
    · rintro (w | ⟨k', hk', w⟩)
      · exact Or.inl (Or.inl w)
      · by_cases y : k' = k
        · subst y
          obtain ⟨c2, c52, e0, w⟩ := w
          have ecc : c2 = c := bt_inj (by omega) (by omega) (e0.symm.trans z)
          subst ecc
          exact Or.inr w
        · exact Or.inl (Or.inr ⟨k', by omega, w⟩)
theorem xx_ht {a : Nat} (ha : a < 4) (hw : bt_wD oc on a) (hm : bt_mk hl P)
    (h : ∀ hl2, bt_mk hl2 (fun x => P x ∨ bt_ht oc on a x) → post (ls, tl, ec, kc, st, dr, nm, pa, ve, sz, it, sm, hl2, th, sp, tb, dl, dn, cc, cv, mn, mc, oc, on, om, op, tr, el, cm)) : wpX_holdTable post (ls, tl, ec, kc, st, dr, nm, pa, ve, sz, it, sm, hl, th, sp, tb, dl, dn, cc, cv, mn, mc, oc, on, om, op, tr, el, cm) (nI a) :=
  nm_r (bt_m4 a) ⟨5, xx_ht_l ha hw h 4 0 5 hl rfl (by omega) (bt_mk_c hm (fun x hx => ⟨Or.inl, fun z => z.elim id (fun ⟨j, hj, _⟩ => by omega)⟩))⟩
/-- what X's sweep needs of the processes -/
def bt_wf (th dl sp tb dn cc cv mn oc on : Nat → Int32) (s t : Nat → Nat) : Prop := ∀ p, p < 4 → ¬ th p = 0 →
  sp p = nI (s p) ∧ s p < 4 ∧ tb p = nI (t p) ∧ t p < 4 ∧ (∃ L, L ≤ 7 ∧ dl p = nI L ∧ ∀ i, i < L → ∃ n, n < 48 ∧ dn (7 * p + i) = nI n) ∧ bt_wC cc cv mn (s p) ∧ bt_wD oc on (t p)
theorem xx_sw3_l {H : Nat → Prop} {st0 : Nat → Int32} (hm : bt_mk hl H) (h : ∀ st2, bt_sw st0 H st2 → post (ls, tl, ec, kc, st2, dr, nm, pa, ve, sz, it, sm, hl, th, sp, tb, dl, dn, cc, cv, mn, mc, oc, on, om, op, tr, el, cm)) :
    ∀ (e i n : Nat) (st : Nat → Int32), 3 ≤ i → i + e = 48 → e < n → (∀ j, (3 ≤ j ∧ j < i ∧ st0 j = 2 ∧ ¬ H j → st j = 0) ∧ (¬ (3 ≤ j ∧ j < i ∧ st0 j = 2 ∧ ¬ H j) → st j = st0 j)) → wX_freeWhatIsNotHeld_70 post ls tl ec kc n (nI i) st dr nm pa ve sz it sm hl th sp tb dl dn cc cv mn mc oc on om op tr el cm := by
  intro e
  induction e with
  | zero =>
    intro i n st h3 hi hn hs
    obtain ⟨n, rfl⟩ : ∃ n', n = n' + 1 := ⟨n - 1, by omega⟩
    have : i = 48 := by omega
    subst this
    exact br_t (by decide) (h st hs)
  | succ e ih =>
    intro i n st h3 hi hn hs
    obtain ⟨n, rfl⟩ : ∃ n', n = n' + 1 := ⟨n - 1, by omega⟩
    have ix := bt_ix48 (q := i) (by omega)
    have si : st i = st0 i := (hs i).2 (fun z => by omega)
    have keep : ¬ (st0 i = 2 ∧ ¬ H i) → wX_freeWhatIsNotHeld_70 post ls tl ec kc n (nI (i + 1)) st dr nm pa ve sz it sm hl th sp tb dl dn cc cv mn mc oc on om op tr el cm := by
      intro z
      refine ih (i + 1) n st (by omega) (by omega) (by omega) (fun j => ⟨fun w => ?_, fun w => ?_⟩)
      · by_cases y : j = i
        · subst y; exact absurd w.2.2 z
        · exact (hs j).1 ⟨w.1, by omega, w.2.2⟩
      · exact (hs j).2 (fun y => w ⟨y.1, by omega, y.2.2⟩)
    refine br_f ix.2.2.2.1 ⟨ix.2.2.2.2.1, ?_⟩
    rw [ix.2.2.2.2.2.1, si]
    refine br_c (fun z2 => ⟨ix.2.2.2.2.1, br_c (fun z0 => ⟨ix.2.2.2.2.1, nm_e (nm_r (nI_1 _) (ih (i + 1) n _ (by omega) (by omega) (by omega) (fun j => ⟨fun w => ?_, fun w => ?_⟩)))⟩) (fun z0 => nm_r (nI_1 _) (keep (fun w => w.2 ((hm i (by omega)).mp z0))))⟩) (fun z2 => nm_r (nI_1 _) (keep (fun w => z2 w.1)))
    · by_cases y : j = i
      · rw [y, pk_us]
      · rw [pk_un y]; exact (hs j).1 ⟨w.1, by omega, w.2.2⟩
    · have nH : ¬ H i := fun y => (hm i (by omega)).mpr y z0
      have y : j ≠ i := fun y => by subst y; exact w ⟨h3, by omega, z2, nH⟩
      rw [pk_un y]; exact (hs j).2 (fun y => w ⟨y.1, by omega, y.2.2⟩)
theorem xx_sw2_l (hw : bt_wf th dl sp tb dn cc cv mn oc on s t) (h : ∀ st2 hl2, bt_sw st (bt_H th dl dn cc cv mn oc on s t) st2 → post (ls, tl, ec, kc, st2, dr, nm, pa, ve, sz, it, sm, hl2, th, sp, tb, dl, dn, cc, cv, mn, mc, oc, on, om, op, tr, el, cm)) :
    ∀ (e i n : Nat) (hl : Nat → Int32), i + e = 4 → e < n → bt_mk hl (fun x => ∃ p, p < i ∧ th p ≠ 0 ∧ bt_h1 dl dn cc cv mn oc on p (s p) (t p) x) → wX_freeWhatIsNotHeld_23 post n (nI i) ls tl ec kc st dr nm pa ve sz it sm hl th sp tb dl dn cc cv mn mc oc on om op tr el cm := by
  intro e
  induction e with
  | zero =>
    intro i n hl hi hn hm
    obtain ⟨n, rfl⟩ : ∃ n', n = n' + 1 := ⟨n - 1, by omega⟩
    have : i = 4 := by omega
    subst this
    exact br_t (by decide) ⟨46, xx_sw3_l hm (fun st2 h2 => h st2 hl h2) 45 3 46 st (by omega) rfl (by omega) (fun j => ⟨fun w => by omega, fun _ => rfl⟩)⟩
  | succ e ih =>
    intro i n hl hi hn hm
    obtain ⟨n, rfl⟩ : ∃ n', n = n' + 1 := ⟨n - 1, by omega⟩
    have ix := bt_ix4 (q := i) (by omega)
    refine br_f ix.2.2.2.1 ⟨ix.2.2.2.2.1, ?_⟩
    rw [ix.2.2.2.2.2.1]
    refine br_c (fun z => nm_r (nI_1 _) (ih (i + 1) n hl (by omega) (by omega) (bt_mk_c hm (fun x hx => ⟨fun ⟨p, a, b, c⟩ => ⟨p, by omega, b, c⟩, fun ⟨p, a, b, c⟩ => ⟨p, ?_, b, c⟩⟩)))) (fun z => ?_)
    · have : p ≠ i := fun y => by subst y; exact b z
      omega
    · obtain ⟨w1, w2, w3, w4, ⟨L, L7, eL, hd0⟩, w6, w7⟩ := hw i (by omega) z
      refine xx_hd (by omega) L7 eL hd0 hm (fun hl2 m2 => ⟨ix.2.2.2.2.1, ?_⟩)
      show wpX_holdSpace _ _ (sp i)
      rw [w1]
      refine xx_hs w2 w6 m2 (fun hl3 m3 => ⟨ix.2.2.2.2.1, ?_⟩)
      show wpX_holdTable _ _ (tb i)
      rw [w3]
      refine xx_ht w4 w7 m3 (fun hl4 m4 => nm_r (nI_1 _) (ih (i + 1) n hl4 (by omega) (by omega) (bt_mk_c m4 (fun x hx => ?_))))
      constructor
      · rintro (((⟨p, a, b, c⟩ | y) | y) | y)
        · exact ⟨p, by omega, b, c⟩
        · exact ⟨i, by omega, z, Or.inl y⟩
        · exact ⟨i, by omega, z, Or.inr (Or.inl y)⟩
        · exact ⟨i, by omega, z, Or.inr (Or.inr y)⟩
      · rintro ⟨p, a, b, c⟩
        by_cases y : p = i
        · subst y
          rcases c with c | c | c
          · exact Or.inl (Or.inl (Or.inr c))
          · exact Or.inl (Or.inr c)
          · exact Or.inr c
        · exact Or.inl (Or.inl (Or.inl ⟨p, by omega, b, c⟩))
theorem xx_sw1_l (hw : bt_wf th dl sp tb dn cc cv mn oc on s t) (h : ∀ st2 hl2, bt_sw st (bt_H th dl dn cc cv mn oc on s t) st2 → post (ls, tl, ec, kc, st2, dr, nm, pa, ve, sz, it, sm, hl2, th, sp, tb, dl, dn, cc, cv, mn, mc, oc, on, om, op, tr, el, cm)) :
    ∀ (e i n : Nat) (hl : Nat → Int32), i + e = 48 → e < n → (∀ j, j < i → hl j = 0) → wX_freeWhatIsNotHeld_2 post ls tl ec kc n (nI i) st dr nm pa ve sz it sm hl th sp tb dl dn cc cv mn mc oc on om op tr el cm := by
  intro e
  induction e with
  | zero =>
    intro i n hl hi hn hm
    obtain ⟨n, rfl⟩ : ∃ n', n = n' + 1 := ⟨n - 1, by omega⟩
    have : i = 48 := by omega
    subst this
    exact br_t (by decide) ⟨5, xx_sw2_l hw h 4 0 5 hl rfl (by omega) (fun x hx => ⟨fun z => absurd (hm x hx) z, fun ⟨p, a, _⟩ => by omega⟩)⟩
  | succ e ih =>
    intro i n hl hi hn hm
    obtain ⟨n, rfl⟩ : ∃ n', n = n' + 1 := ⟨n - 1, by omega⟩
    have ix := bt_ix48 (q := i) (by omega)
    refine br_f ix.2.2.2.1 ⟨ix.2.2.2.2.1, nm_e (nm_r (nI_1 _) ?_)⟩
    rw [ix.2.2.2.2.2.1]
    refine ih (i + 1) n _ (by omega) (by omega) (fun j hj => ?_)
    by_cases y : j = i
    · rw [y, pk_us]; exact bt_n0
    · rw [pk_un y]; exact hm j (by omega)
theorem xx_sw (hw : bt_wf th dl sp tb dn cc cv mn oc on s t) (h : ∀ st2 hl2, bt_sw st (bt_H th dl dn cc cv mn oc on s t) st2 → post (ls, tl, ec, kc, st2, dr, nm, pa, ve, sz, it, sm, hl2, th, sp, tb, dl, dn, cc, cv, mn, mc, oc, on, om, op, tr, el, cm)) : wpX_freeWhatIsNotHeld post (ls, tl, ec, kc, st, dr, nm, pa, ve, sz, it, sm, hl, th, sp, tb, dl, dn, cc, cv, mn, mc, oc, on, om, op, tr, el, cm) :=
  ⟨49, xx_sw1_l hw h 48 0 49 hl rfl (by omega) (fun j hj => by omega)⟩
end
