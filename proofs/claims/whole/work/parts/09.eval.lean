def bt_tr (st nm tr tn tm : Nat → Int32) (L : Nat) : Prop :=
  1 ≤ L ∧ L ≤ 7 ∧ tr 0 = 0 ∧ ∀ i, i < L → tr i = tn i ∧ ∃ n, n < 48 ∧ tr i = nI n ∧ st n ≠ 0 ∧ (1 ≤ i → tm i = nm n)
def bt_an (st tr : Nat → Int32) (r : Int32) (L : Nat) : Prop :=
  (r < 0 ∧ ¬ 0 ≤ r) ∨ ∃ n, n < 48 ∧ r = nI n ∧ st n ≠ 0 ∧ tr (L - 1) = nI n
theorem bt_tr_u {st nm tr tn tm : Nat → Int32} {L m : Nat} {y : Int32} (h : bt_tr st nm tr tn tm L) (hL : L ≠ 7) (hm : m < 48) (hs : st m ≠ 0) (hy : nm m = y) :
    bt_tr st nm (upd tr L (nI m)) (upd tn L (nI m)) (upd tm L y) (L + 1) := by
  obtain ⟨a, b, c, f⟩ := h
  refine ⟨by omega, by omega, ?_, fun i hi => ?_⟩
  · rw [pk_un (by omega)]; exact c
  · by_cases e : i = L
    · rw [e, pk_us, pk_us, pk_us]
      exact ⟨rfl, m, hm, rfl, hs, fun _ => hy.symm⟩
    · rw [pk_un e, pk_un e, pk_un e]; exact f i (by omega)
theorem bt_tr_b {st nm tr tn tm : Nat → Int32} {L : Nat} (h : bt_tr st nm tr tn tm L) (hL : 1 < L) : bt_tr st nm tr tn tm (L - 1) :=
  ⟨by omega, by have := h.2.1; omega, h.2.2.1, fun i hi => h.2.2.2 i (by omega)⟩
theorem bt_e7 {m : Nat} (h : m < 2 ^ 31) : nI m = 7 ↔ m = 7 := nI_eq (b := 7) h (by decide)
section
variable {ls tl ec kc : Int32} {st dr nm pa ve sz it sm hl th sp tb dl dn cc cv mn mc oc on om op tr el cm : Nat → Int32} {es tt se fr : Int32} {sY tY dy dm vc ms me cr hd hN ps la ey tn tm sn sc fn fc : Nat → Int32}
theorem ev_l {p a b K : Nat} {E : Nat → Nat} {lv : Int32} (hp : p < 4) (ha : a < 4) (hb : b < 4) (sa : sp p = nI a) (sb : sY p = nI b) (hB : ∀ i, bt_B (cr i))
    (hC : ∀ k, k < 6 → bt_C st cc cv mn mc vc ms me cr (6 * a + k) (6 * b + k)) (hK : K ≤ 6) (hE : ∀ k, k < K → E k ≤ 10)
    (hx : ∀ j, j < K → el j = nI (E (K - 1 - j))) (hlv : es - lv = nI K) :
    ∀ (e k : Nat) (tr : Nat → Int32) (L : Nat), k + e = K → (∃ tn tm, bt_tr st nm tr tn tm L) →
      ∃ (r : Int32) (L' : Nat) (tr' : Nat → Int32), bt_an st tr' r L' ∧ (∃ tn tm, bt_tr st nm tr' tn tm L') ∧
        (∀ (post : Int32 → SX → Prop) (n : Nat), e < n → post r (ls, nI L', ec, kc, st, dr, nm, pa, ve, sz, it, sm, hl, th, sp, tb, dl, dn, cc, cv, mn, mc, oc, on, om, op, tr', el, cm) → wX_evaluate_35 post (nI p) n (nI e - 1) ls (nI L) ec kc st dr nm pa ve sz it sm hl th sp tb dl dn cc cv mn mc oc on om op tr el cm) ∧
        (∀ (post : Int32 → SY → Prop) (n : Nat) (fr : Int32) (fn fc ey tn tm sn sc : Nat → Int32) (se : Int32), e < n → (∀ k, k < K → ey k = nI (E k)) → bt_tr st nm tr tn tm L →
          (∀ (tn2 tm2 sn2 sc2 : Nat → Int32) (se2 : Int32), bt_tr st nm tr' tn2 tm2 L' → post r (ls, es, nI L', se2, fr, st, nm, pa, ve, sz, sm, it, dr, th, sY, tY, dl, dy, dm, vc, ms, me, cr, hd, hN, ps, la, ey, tn2, tm2, sn2, sc2, fn, fc)) →
          wY_evaluate_97 post (nI p) lv n (nI k) ls es (nI L) se fr st nm pa ve sz sm it dr th sY tY dl dy dm vc ms me cr hd hN ps la ey tn tm sn sc fn fc) := by
  have ip := bt_ix4 hp
  intro e
  induction e with
  | zero =>
    intro k tr L hk hT
    have hT' := hT
    obtain ⟨tn0, tm0, h⟩ := hT'
    obtain ⟨L1, L7, h00, hf⟩ := h
    obtain ⟨_, q, hq, eq, sq, _⟩ := hf (L - 1) (by omega)
    have il := bt_ix7 (q := L - 1) (by omega)
    have iq := bt_ix48 hq
    have ek : k = K := by omega
    by_cases z : st q = 2
    · refine ⟨-2, L, tr, Or.inl ⟨by decide, by decide⟩, hT, fun post n hn h => ?_, fun post n fr fn fc ey tn tm sn sc se hn hy ht h => ?_⟩
      · obtain ⟨n, rfl⟩ : ∃ n', n = n' + 1 := ⟨n - 1, by omega⟩
        refine br_t (by decide) ?_
        rw [bt_s1 (by omega), il.2.2.2.2.2.1, eq]
        refine ⟨il.2.2.2.2.1, nm_e ⟨iq.2.2.2.2.1, br_t ?_ h⟩⟩
        rw [iq.2.2.2.2.2.1]; exact z
      · obtain ⟨n, rfl⟩ : ∃ n', n = n' + 1 := ⟨n - 1, by omega⟩
        refine br_t (by rw [hlv, ek]; exact Int32.le_refl _) ?_
        rw [bt_s1 (by omega), il.2.2.2.2.2.1, ← (ht.2.2.2 (L - 1) (by omega)).1, eq]
        refine ⟨il.2.2.2.2.1, nm_e ⟨iq.2.2.2.2.1, br_t ?_ (h _ _ _ _ _ ht)⟩⟩
        rw [iq.2.2.2.2.2.1]; exact z
    · refine ⟨nI q, L, tr, Or.inr ⟨q, hq, rfl, sq, eq⟩, hT, fun post n hn h => ?_, fun post n fr fn fc ey tn tm sn sc se hn hy ht h => ?_⟩
      · obtain ⟨n, rfl⟩ : ∃ n', n = n' + 1 := ⟨n - 1, by omega⟩
        refine br_t (by decide) ?_
        rw [bt_s1 (by omega), il.2.2.2.2.2.1, eq]
        refine ⟨il.2.2.2.2.1, nm_e ⟨iq.2.2.2.2.1, br_f ?_ h⟩⟩
        rw [iq.2.2.2.2.2.1]; exact z
      · obtain ⟨n, rfl⟩ : ∃ n', n = n' + 1 := ⟨n - 1, by omega⟩
        refine br_t (by rw [hlv, ek]; exact Int32.le_refl _) ?_
        rw [bt_s1 (by omega), il.2.2.2.2.2.1, ← (ht.2.2.2 (L - 1) (by omega)).1, eq]
        refine ⟨il.2.2.2.2.1, nm_e ⟨iq.2.2.2.2.1, br_f ?_ (h _ _ _ _ _ ht)⟩⟩
        rw [iq.2.2.2.2.2.1]; exact z
  | succ e ih =>
    intro k tr L hk hT
    have hT' := hT
    obtain ⟨tn0, tm0, h⟩ := hT'
    have L1 := h.1
    have L7 := h.2.1
    have ie := bt_ix6 (q := e) (by omega)
    have ik := bt_ix6 (q := k) (by omega)
    have xe : el e = nI (E k) := by rw [hx e (by omega)]; exact congrArg (fun z => nI (E z)) (by omega)
    have E10 := hE k (by omega)
    have nk : ¬ es - lv ≤ nI k := by rw [hlv]; exact nI_ge (by omega) (by omega)
    -- one step of X, whatever follows
    have stepX : ∀ (post : Int32 → SX → Prop) (n : Nat) (r : Int32) (L2 : Nat) (tr2 : Nat → Int32),
        (∀ post2 : Int32 → SX → Prop, post2 r (ls, nI L2, ec, kc, st, dr, nm, pa, ve, sz, it, sm, hl, th, sp, tb, dl, dn, cc, cv, mn, mc, oc, on, om, op, tr2, el, cm) → wpX_step post2 (ls, nI L, ec, kc, st, dr, nm, pa, ve, sz, it, sm, hl, th, sp, tb, dl, dn, cc, cv, mn, mc, oc, on, om, op, tr, el, cm) (nI a) (nI (E k))) →
        ((r = 0 → wX_evaluate_35 post (nI p) n (nI e - 1) ls (nI L2) ec kc st dr nm pa ve sz it sm hl th sp tb dl dn cc cv mn mc oc on om op tr2 el cm) ∧ (¬ r = 0 → post r (ls, nI L2, ec, kc, st, dr, nm, pa, ve, sz, it, sm, hl, th, sp, tb, dl, dn, cc, cv, mn, mc, oc, on, om, op, tr2, el, cm))) →
        wX_evaluate_35 post (nI p) (n + 1) (nI (e + 1) - 1) ls (nI L) ec kc st dr nm pa ve sz it sm hl th sp tb dl dn cc cv mn mc oc on om op tr el cm := by
      intro post n r L2 tr2 hs hr
      rw [nI_pred]
      refine br_f ie.1 ?_
      rw [ip.2.2.2.2.2.1, sa, ie.2.2.2.2.2.1, xe]
      refine ⟨ip.2.2.2.2.1, ie.2.2.2.2.1, hs _ ?_⟩
      refine br_c (fun z => nm_r (bt_am1 _) (hr.1 z)) (fun z => hr.2 z)
    by_cases e10 : E k = 10
    · -- back
      have x10 : nI (E k) = 10 := by rw [e10]; rfl
      by_cases b1 : L ≤ 1
      · have eL : L = 1 := by omega
        subst eL
        obtain ⟨r, L', tr', an, hT2, fX, fY⟩ := ih (k + 1) tr 1 (by omega) hT
        refine ⟨r, L', tr', an, hT2, fun post n hn h => ?_, fun post n fr fn fc ey tn tm sn sc se hn hy ht h => ?_⟩
        · obtain ⟨n, rfl⟩ : ∃ n', n = n' + 1 := ⟨n - 1, by omega⟩
          exact stepX post n 0 1 tr (fun post2 h2 => br_t x10 (br_t (by decide) h2)) (br_t rfl (fX post n (by omega) h))
        · obtain ⟨n, rfl⟩ : ∃ n', n = n' + 1 := ⟨n - 1, by omega⟩
          refine br_f nk ⟨ik.2.2.2.2.1, ?_⟩
          rw [ik.2.2.2.2.2.1, hy k (by omega)]
          exact br_t x10 (br_t (by decide) (nm_r (nI_1 _) (fY post n fr fn fc ey tn tm sn sc se (by omega) hy ht h)))
      · obtain ⟨r, L', tr', an, hT2, fX, fY⟩ := ih (k + 1) tr (L - 1) (by omega) ⟨tn0, tm0, bt_tr_b h (by omega)⟩
        have nb : ¬ nI L ≤ 1 := nI_ge (a := 1) (by omega) (by omega)
        refine ⟨r, L', tr', an, hT2, fun post n hn h => ?_, fun post n fr fn fc ey tn tm sn sc se hn hy ht h => ?_⟩
        · obtain ⟨n, rfl⟩ : ∃ n', n = n' + 1 := ⟨n - 1, by omega⟩
          exact stepX post n 0 (L - 1) tr (fun post2 h2 => br_t x10 (br_f nb (nm_r (bt_s1 (by omega)) h2))) (br_t rfl (fX post n (by omega) h))
        · obtain ⟨n, rfl⟩ : ∃ n', n = n' + 1 := ⟨n - 1, by omega⟩
          refine br_f nk ⟨ik.2.2.2.2.1, ?_⟩
          rw [ik.2.2.2.2.2.1, hy k (by omega)]
          exact br_t x10 (br_f nb (nm_r (bt_s1 (by omega)) (nm_r (nI_1 _) (fY post n fr fn fc ey tn tm sn sc se (by omega) hy (bt_tr_b ht (by omega)) h))))
    · have x10 : ¬ nI (E k) = 10 := fun z => e10 ((bt_e10 (by omega)).mp z)
      obtain ⟨_, q, hq, eq, sq, _⟩ := h.2.2.2 (L - 1) (by omega)
      have il := bt_ix7 (q := L - 1) (by omega)
      have iq := bt_ix48 hq
      have Nq : bt_N st (nI q) := ⟨q, hq, rfl, sq⟩
      by_cases d0 : dr q = 0
      · refine ⟨-3, L, tr, Or.inl ⟨by decide, by decide⟩, hT, fun post n hn h => ?_, fun post n fr fn fc ey tn tm sn sc se hn hy ht h => ?_⟩
        · obtain ⟨n, rfl⟩ : ∃ n', n = n' + 1 := ⟨n - 1, by omega⟩
          refine stepX post n (-3) L tr (fun post2 h2 => br_f x10 ?_) (br_f (by decide) h)
          rw [bt_s1 (by omega), il.2.2.2.2.2.1, eq]
          refine ⟨il.2.2.2.2.1, nm_e ⟨iq.2.2.2.2.1, br_t ?_ h2⟩⟩
          rw [iq.2.2.2.2.2.1]; exact d0
        · obtain ⟨n, rfl⟩ : ∃ n', n = n' + 1 := ⟨n - 1, by omega⟩
          refine br_f nk ⟨ik.2.2.2.2.1, ?_⟩
          rw [ik.2.2.2.2.2.1, hy k (by omega), bt_s1 (by omega), il.2.2.2.2.2.1, ← (ht.2.2.2 (L - 1) (by omega)).1, eq]
          refine br_f x10 ⟨il.2.2.2.2.1, nm_e ⟨iq.2.2.2.2.1, br_t ?_ (h _ _ _ _ _ ht)⟩⟩
          rw [iq.2.2.2.2.2.1]; exact d0
      · obtain ⟨c, c1, c5, hv, _, _, hS⟩ := bt_view hC Nq
        have ho : ∀ k', bt_cf cc cv a (nI q) = some k' → k' < 6 := fun k' hk' => (hS k' hk').1
        -- X's step up to the child
        have stX : ∀ (post2 : Int32 → SX → Prop),
            ((bt_o (bt_lk (fun d => bt_ch st pa nm d (nI (E k))) (bt_vg mn a (nI q) (bt_cf cc cv a (nI q))) 0 c) = -1 → post2 (-2) (ls, nI L, ec, kc, st, dr, nm, pa, ve, sz, it, sm, hl, th, sp, tb, dl, dn, cc, cv, mn, mc, oc, on, om, op, tr, el, cm)) ∧
             (¬ bt_o (bt_lk (fun d => bt_ch st pa nm d (nI (E k))) (bt_vg mn a (nI q) (bt_cf cc cv a (nI q))) 0 c) = -1 →
               ((nI L = 7 → post2 (-4) (ls, nI L, ec, kc, st, dr, nm, pa, ve, sz, it, sm, hl, th, sp, tb, dl, dn, cc, cv, mn, mc, oc, on, om, op, tr, el, cm)) ∧ (¬ nI L = 7 → vp_in (nI L) 7 ∧ ∀ tr2, tr2 = upd tr (nI L).toNatClampNeg (bt_o (bt_lk (fun d => bt_ch st pa nm d (nI (E k))) (bt_vg mn a (nI q) (bt_cf cc cv a (nI q))) 0 c)) → ∀ L2, L2 = nI L + 1 → post2 0 (ls, L2, ec, kc, st, dr, nm, pa, ve, sz, it, sm, hl, th, sp, tb, dl, dn, cc, cv, mn, mc, oc, on, om, op, tr2, el, cm))))) →
            wpX_step post2 (ls, nI L, ec, kc, st, dr, nm, pa, ve, sz, it, sm, hl, th, sp, tb, dl, dn, cc, cv, mn, mc, oc, on, om, op, tr, el, cm) (nI a) (nI (E k)) := by
          intro post2 h2
          refine br_f x10 ?_
          rw [bt_s1 (by omega), il.2.2.2.2.2.1, eq]
          refine ⟨il.2.2.2.2.1, nm_e ⟨iq.2.2.2.2.1, br_f ?_ (xx_coverOf ha (bt_Cc hC) (xx_lookUp ha c5 hv ho h2))⟩⟩
          rw [iq.2.2.2.2.2.1]; exact d0
        -- Y's walk up to the child
        have stY : ∀ (post : Int32 → SY → Prop) (n : Nat) (fr : Int32) (fn fc ey tn tm sn sc : Nat → Int32) (se : Int32), (∀ k, k < K → ey k = nI (E k)) → bt_tr st nm tr tn tm L →
            (∀ sn sc se, ((0 ≤ bt_o (bt_lk (fun d => bt_ch st pa nm d (nI (E k))) (bt_vg mn a (nI q) (bt_cf cc cv a (nI q))) 0 c) →
                ((nI L = 7 → post (-4) (ls, es, nI L, se, fr, st, nm, pa, ve, sz, sm, it, dr, th, sY, tY, dl, dy, dm, vc, ms, me, cr, hd, hN, ps, la, ey, tn, tm, sn, sc, fn, fc)) ∧ (¬ nI L = 7 → vp_in (nI L) 7 ∧ ∀ tn2, tn2 = upd tn (nI L).toNatClampNeg (bt_o (bt_lk (fun d => bt_ch st pa nm d (nI (E k))) (bt_vg mn a (nI q) (bt_cf cc cv a (nI q))) 0 c)) →
                  (vp_in (nI k) 6 ∧ vp_in (nI L) 7 ∧ ∀ tm2, tm2 = upd tm (nI L).toNatClampNeg (ey (nI k).toNatClampNeg) → ∀ L2, L2 = nI L + 1 → ∀ k2, k2 = nI k + 1 → wY_evaluate_97 post (nI p) lv n k2 ls es L2 se fr st nm pa ve sz sm it dr th sY tY dl dy dm vc ms me cr hd hN ps la ey tn2 tm2 sn sc fn fc)))) ∧
              (¬ 0 ≤ bt_o (bt_lk (fun d => bt_ch st pa nm d (nI (E k))) (bt_vg mn a (nI q) (bt_cf cc cv a (nI q))) 0 c) → post (-2) (ls, es, nI L, se, fr, st, nm, pa, ve, sz, sm, it, dr, th, sY, tY, dl, dy, dm, vc, ms, me, cr, hd, hN, ps, la, ey, tn, tm, sn, sc, fn, fc)))) →
            wY_evaluate_97 post (nI p) lv (n + 1) (nI k) ls es (nI L) se fr st nm pa ve sz sm it dr th sY tY dl dy dm vc ms me cr hd hN ps la ey tn tm sn sc fn fc := by
          intro post n fr fn fc ey tn tm sn sc se hy ht h2
          refine br_f nk ⟨ik.2.2.2.2.1, br_f ?_ ?_⟩
          · rw [ik.2.2.2.2.2.1, hy k (by omega)]; exact x10
          · rw [bt_s1 (by omega), il.2.2.2.2.2.1, ← (ht.2.2.2 (L - 1) (by omega)).1, eq]
            refine ⟨il.2.2.2.2.1, nm_e ⟨iq.2.2.2.2.1, br_f ?_ (yy_look hp hb sb hB hC Nq rfl hv c1 c5 (fun sn2 sc2 g1 _ _ => ⟨ik.2.2.2.2.1, ?_⟩))⟩⟩
            · rw [iq.2.2.2.2.2.1]; exact d0
            · have := h2 sn2 sc2 (nI c)
              refine yy_childSeen c5 g1 ?_
              rw [ik.2.2.2.2.2.1, hy k (by omega)] at this ⊢
              exact this
        cases lk : bt_lk (fun d => bt_ch st pa nm d (nI (E k))) (bt_vg mn a (nI q) (bt_cf cc cv a (nI q))) 0 c with
        | none =>
          rw [lk] at stX stY
          refine ⟨-2, L, tr, Or.inl ⟨by decide, by decide⟩, hT, fun post n hn h => ?_, fun post n fr fn fc ey tn tm sn sc se hn hy ht h => ?_⟩
          · obtain ⟨n, rfl⟩ : ∃ n', n = n' + 1 := ⟨n - 1, by omega⟩
            exact stepX post n (-2) L tr (fun post2 h2 => stX post2 (br_t rfl h2)) (br_f (by decide) h)
          · obtain ⟨n, rfl⟩ : ∃ n', n = n' + 1 := ⟨n - 1, by omega⟩
            exact stY post n fr fn fc ey tn tm sn sc se hy ht (fun sn sc se => br_f (by decide) (h _ _ _ _ _ ht))
        | some m =>
          rw [lk] at stX stY
          have hm : 3 ≤ m ∧ m < 48 ∧ st m = 1 ∧ nm m = nI (E k) := by
            refine bt_lk_in (Q := fun m => 3 ≤ m ∧ m < 48 ∧ st m = 1 ∧ nm m = nI (E k)) (fun y n hy => ?_) c 0 lk
            obtain ⟨u1, u2, u3, _⟩ := bt_f_s 45 3 hy
            exact ⟨u1, by omega, u3.1, u3.2.2⟩
          have im := bt_ix48 hm.2.1
          by_cases l7 : L = 7
          · have l7' : nI L = 7 := by rw [l7]; rfl
            refine ⟨-4, L, tr, Or.inl ⟨by decide, by decide⟩, hT, fun post n hn h => ?_, fun post n fr fn fc ey tn tm sn sc se hn hy ht h => ?_⟩
            · obtain ⟨n, rfl⟩ : ∃ n', n = n' + 1 := ⟨n - 1, by omega⟩
              exact stepX post n (-4) L tr (fun post2 h2 => stX post2 (br_f im.2.2.2.2.2.2 (br_t l7' h2))) (br_f (by decide) h)
            · obtain ⟨n, rfl⟩ : ∃ n', n = n' + 1 := ⟨n - 1, by omega⟩
              exact stY post n fr fn fc ey tn tm sn sc se hy ht (fun sn sc se => br_t im.2.1 (br_t l7' (h _ _ _ _ _ ht)))
          · have l7' : ¬ nI L = 7 := fun z => l7 ((bt_e7 (by omega)).mp z)
            have iL := bt_ix7 (q := L) (by omega)
            have sm1 : st m ≠ 0 := by rw [hm.2.2.1]; decide
            obtain ⟨r, L', tr', an, hT2, fX, fY⟩ := ih (k + 1) (upd tr L (nI m)) (L + 1) (by omega) ⟨_, _, bt_tr_u h l7 hm.2.1 sm1 rfl⟩
            refine ⟨r, L', tr', an, hT2, fun post n hn h => ?_, fun post n fr fn fc ey tn tm sn sc se hn hy ht h => ?_⟩
            · obtain ⟨n, rfl⟩ : ∃ n', n = n' + 1 := ⟨n - 1, by omega⟩
              refine stepX post n 0 (L + 1) (upd tr L (nI m)) (fun post2 h2 => stX post2 (br_f im.2.2.2.2.2.2 (br_f l7' ⟨iL.2.2.2.2.1, ?_⟩))) (br_t rfl (fX post n (by omega) h))
              rw [iL.2.2.2.2.2.1]
              exact nm_e (nm_r (nI_1 _) h2)
            · obtain ⟨n, rfl⟩ : ∃ n', n = n' + 1 := ⟨n - 1, by omega⟩
              refine stY post n fr fn fc ey tn tm sn sc se hy ht (fun sn sc se => br_t im.2.1 (br_f l7' ⟨iL.2.2.2.2.1, ?_⟩))
              rw [iL.2.2.2.2.2.1, ik.2.2.2.2.2.1, hy k (by omega)]
              exact nm_e ⟨ik.2.2.2.2.1, iL.2.2.2.2.1, nm_e (nm_r (nI_1 _) (nm_r (nI_1 _) (fY post n fr fn fc ey _ _ sn sc se (by omega) hy (bt_tr_u ht l7 hm.2.1 sm1 hm.2.2.2) h)))⟩
end
