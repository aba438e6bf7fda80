set_option maxRecDepth 20000 in
theorem lc_all {sL : Nat} {xs : Nat → Int32} {l : Launch} {K : Nat → xL → List xV → xH → Prop} (hK : YR sL xs l mtL kLaw rt1 K) {i : Nat} (h1 : vp_in (nI (4 * i) + 1) sL) (h2 : vp_in (nI (4 * i) + 2) sL) (h3 : vp_in (nI (4 * i) + 3) sL) {hp : xH} (hX : LX hp) (go : ∀ hp', LX hp' → K 912 (lvL i) [] hp') : K 408 (lvL i) [] hp := by
  obtain ⟨bs, nb, N, mk, w, n, W, rent, mo, L, S, _, _, _, _, _, rfl, hN, hT, hR, hL, hM, hw⟩ := hX
  obtain ⟨ah, en, ow, fr, bd, se, fw, rc, rfl, -⟩ := id hN
  obtain ⟨ma, sz, wk, ax, ay, ak, ob, rfl, -⟩ := id hT
  obtain ⟨M, tr, oo, be, pr, mm, ct, re, gr, sx, rfl, -⟩ := id hR
  obtain ⟨Nn, Ah, En, Ho, Sv, cl, st, un, sh, sd, sf, rfl, -⟩ := id hL
  obtain ⟨th, nk, nt, rm, ln, lg, b1, b2, b3, b4, b5, qma, wa, ta, ha, b6, b7, p1, sa, wh, up, lo, rfl, hMB, hMT, hMw, hMR, hML⟩ := hM
  refine hK [(912, [0, 1, 2, 3])] 70 408 _ _ _ ?_
  refine ⟨[0, 6, 7], _, s_all l N mk w _ hT , fun r hc' hP _ => ?_⟩
  obtain ⟨rfl, _, hT1, rfl⟩ := hP
  obtain ⟨ma1, sz1, wk1, ax1, ay1, ak1, ob1, rfl, -⟩ := id hT1
  refine ⟨[40, 46], _, m_all l N mk w nk rm ln lg _ ⟨th, nt, qma, rfl, hMT, hMw⟩ , fun r hc' hP _ => ?_⟩
  obtain ⟨rfl, th', nt', qma', rfl, hMT', hMw'⟩ := hP
  exact And.intro (fun _ => go _ ⟨bs, nb, N, mk, w, n, W, rent, mo, L, S, nkH ah en ow fr bd se fw rc, ntH ma1 sz1 wk1 ax1 ay1 ak1 ob1, rmH M tr oo be pr mm ct re gr sx, lnH Nn Ah En Ho Sv cl st un sh sd sf, mwA th' nk nt' rm ln lg b1 b2 b3 b4 b5 qma' wa ta ha b6 b7 p1 sa wh up lo, rfl, hN, hT1, hR, hL, ⟨th', nk, nt', rm, ln, lg, b1, b2, b3, b4, b5, qma', wa, ta, ha, b6, b7, p1, sa, wh, up, lo, rfl, hMB, hMT', hMw', hMR, hML⟩, hw⟩) (fun z => absurd rfl z)
set_option maxRecDepth 20000 in
theorem lc_doors {sL : Nat} {xs : Nat → Int32} {l : Launch} {K : Nat → xL → List xV → xH → Prop} (hK : YR sL xs l mtL kLaw rt1 K) {i : Nat} (h1 : vp_in (nI (4 * i) + 1) sL) (h2 : vp_in (nI (4 * i) + 2) sL) (h3 : vp_in (nI (4 * i) + 3) sL) {hp : xH} (hX : LX hp) (go : ∀ hp', LX hp' → K 912 (lvL i) [] hp') : K 421 (lvL i) [] hp := by
  obtain ⟨bs, nb, N, mk, w, n, W, rent, mo, L, S, _, _, _, _, _, rfl, hN, hT, hR, hL, hM, hw⟩ := hX
  obtain ⟨ah, en, ow, fr, bd, se, fw, rc, rfl, -⟩ := id hN
  obtain ⟨ma, sz, wk, ax, ay, ak, ob, rfl, -⟩ := id hT
  obtain ⟨M, tr, oo, be, pr, mm, ct, re, gr, sx, rfl, -⟩ := id hR
  obtain ⟨Nn, Ah, En, Ho, Sv, cl, st, un, sh, sd, sf, rfl, -⟩ := id hL
  obtain ⟨th, nk, nt, rm, ln, lg, b1, b2, b3, b4, b5, qma, wa, ta, ha, b6, b7, p1, sa, wh, up, lo, rfl, hMB, hMT, hMw, hMR, hML⟩ := hM
  refine hK [(912, [0, 1, 2, 3])] 70 421 _ _ _ ?_
  refine ⟨[0, 6, 7], _, s_doors l N mk w _ hT , fun r hc' hP _ => ?_⟩
  obtain ⟨rfl, _, hT1, rfl⟩ := hP
  obtain ⟨ma1, sz1, wk1, ax1, ay1, ak1, ob1, rfl, -⟩ := id hT1
  refine ⟨[40, 46], _, m_doors l N mk w nk rm ln lg _ ⟨th, nt, qma, rfl, hMT, hMw⟩ , fun r hc' hP _ => ?_⟩
  obtain ⟨rfl, th', nt', qma', rfl, hMT', hMw'⟩ := hP
  exact And.intro (fun _ => go _ ⟨bs, nb, N, mk, w, n, W, rent, mo, L, S, nkH ah en ow fr bd se fw rc, ntH ma1 sz1 wk1 ax1 ay1 ak1 ob1, rmH M tr oo be pr mm ct re gr sx, lnH Nn Ah En Ho Sv cl st un sh sd sf, mwA th' nk nt' rm ln lg b1 b2 b3 b4 b5 qma' wa ta ha b6 b7 p1 sa wh up lo, rfl, hN, hT1, hR, hL, ⟨th', nk, nt', rm, ln, lg, b1, b2, b3, b4, b5, qma', wa, ta, ha, b6, b7, p1, sa, wh, up, lo, rfl, hMB, hMT', hMw', hMR, hML⟩, hw⟩) (fun z => absurd rfl z)
set_option maxRecDepth 20000 in
theorem lc_doorsAll {sL : Nat} {xs : Nat → Int32} {l : Launch} {K : Nat → xL → List xV → xH → Prop} (hK : YR sL xs l mtL kLaw rt1 K) {i : Nat} (h1 : vp_in (nI (4 * i) + 1) sL) (h2 : vp_in (nI (4 * i) + 2) sL) (h3 : vp_in (nI (4 * i) + 3) sL) {hp : xH} (hX : LX hp) (go : ∀ hp', LX hp' → K 912 (lvL i) [] hp') : K 434 (lvL i) [] hp := by
  obtain ⟨bs, nb, N, mk, w, n, W, rent, mo, L, S, _, _, _, _, _, rfl, hN, hT, hR, hL, hM, hw⟩ := hX
  obtain ⟨ah, en, ow, fr, bd, se, fw, rc, rfl, -⟩ := id hN
  obtain ⟨ma, sz, wk, ax, ay, ak, ob, rfl, -⟩ := id hT
  obtain ⟨M, tr, oo, be, pr, mm, ct, re, gr, sx, rfl, -⟩ := id hR
  obtain ⟨Nn, Ah, En, Ho, Sv, cl, st, un, sh, sd, sf, rfl, -⟩ := id hL
  obtain ⟨th, nk, nt, rm, ln, lg, b1, b2, b3, b4, b5, qma, wa, ta, ha, b6, b7, p1, sa, wh, up, lo, rfl, hMB, hMT, hMw, hMR, hML⟩ := hM
  refine hK [(912, [0, 1, 2, 3])] 70 434 _ _ _ ?_
  refine ⟨[0, 6, 7], _, s_doorsAll l N mk w _ hT , fun r hc' hP _ => ?_⟩
  obtain ⟨rfl, _, hT1, rfl⟩ := hP
  obtain ⟨ma1, sz1, wk1, ax1, ay1, ak1, ob1, rfl, -⟩ := id hT1
  refine ⟨[40, 46], _, m_doorsAll l N mk w nk rm ln lg _ ⟨th, nt, qma, rfl, hMT, hMw⟩ , fun r hc' hP _ => ?_⟩
  obtain ⟨rfl, th', nt', qma', rfl, hMT', hMw'⟩ := hP
  exact And.intro (fun _ => go _ ⟨bs, nb, N, mk, w, n, W, rent, mo, L, S, nkH ah en ow fr bd se fw rc, ntH ma1 sz1 wk1 ax1 ay1 ak1 ob1, rmH M tr oo be pr mm ct re gr sx, lnH Nn Ah En Ho Sv cl st un sh sd sf, mwA th' nk nt' rm ln lg b1 b2 b3 b4 b5 qma' wa ta ha b6 b7 p1 sa wh up lo, rfl, hN, hT1, hR, hL, ⟨th', nk, nt', rm, ln, lg, b1, b2, b3, b4, b5, qma', wa, ta, ha, b6, b7, p1, sa, wh, up, lo, rfl, hMB, hMT', hMw', hMR, hML⟩, hw⟩) (fun z => absurd rfl z)
set_option maxRecDepth 20000 in
theorem lc_walk {sL : Nat} {xs : Nat → Int32} {l : Launch} {K : Nat → xL → List xV → xH → Prop} (hK : YR sL xs l mtL kLaw rt1 K) {i : Nat} (h1 : vp_in (nI (4 * i) + 1) sL) (h2 : vp_in (nI (4 * i) + 2) sL) (h3 : vp_in (nI (4 * i) + 3) sL) {hp : xH} (hX : LX hp) (go : ∀ hp', LX hp' → K 912 (lvL i) [] hp') : K 447 (lvL i) [] hp := by
  obtain ⟨bs, nb, N, mk, w, n, W, rent, mo, L, S, _, _, _, _, _, rfl, hN, hT, hR, hL, hM, hw⟩ := hX
  obtain ⟨ah, en, ow, fr, bd, se, fw, rc, rfl, -⟩ := id hN
  obtain ⟨ma, sz, wk, ax, ay, ak, ob, rfl, -⟩ := id hT
  obtain ⟨M, tr, oo, be, pr, mm, ct, re, gr, sx, rfl, -⟩ := id hR
  obtain ⟨Nn, Ah, En, Ho, Sv, cl, st, un, sh, sd, sf, rfl, -⟩ := id hL
  obtain ⟨th, nk, nt, rm, ln, lg, b1, b2, b3, b4, b5, qma, wa, ta, ha, b6, b7, p1, sa, wh, up, lo, rfl, hMB, hMT, hMw, hMR, hML⟩ := hM
  refine hK [(912, [0, 1, 2, 3])] 70 447 _ _ _ ?_
  refine And.intro h1 ?_
  obtain ⟨vq, wq, hq, hwq⟩ := sWalk_ok hMT.2.2.1 w hw (xs (nI (4 * i) + 1).toNatClampNeg)
  refine ⟨[0, 6, 7], _, s_walk l N mk w _ hT (xs (nI (4 * i) + 1).toNatClampNeg) vq wq hq, fun r hc' hP _ => ?_⟩
  obtain ⟨rfl, _, hT1, rfl⟩ := hP
  obtain ⟨ma1, sz1, wk1, ax1, ay1, ak1, ob1, rfl, -⟩ := id hT1
  refine And.intro h1 ?_
  refine ⟨[40, 46], _, m_walk' l N mk w nk rm ln lg _ ⟨th, nt, qma, rfl, hMT, hMw⟩ (xs (nI (4 * i) + 1).toNatClampNeg) vq wq hq, fun r hc' hP _ => ?_⟩
  obtain ⟨rfl, th', nt', qma', rfl, hMT', hMw'⟩ := hP
  exact And.intro (fun _ => go _ ⟨bs, nb, N, mk, wq, n, W, rent, mo, L, S, nkH ah en ow fr bd se fw rc, ntH ma1 sz1 wk1 ax1 ay1 ak1 ob1, rmH M tr oo be pr mm ct re gr sx, lnH Nn Ah En Ho Sv cl st un sh sd sf, mwA th' nk nt' rm ln lg b1 b2 b3 b4 b5 qma' wa ta ha b6 b7 p1 sa wh up lo, rfl, hN, hT1, hR, hL, ⟨th', nk, nt', rm, ln, lg, b1, b2, b3, b4, b5, qma', wa, ta, ha, b6, b7, p1, sa, wh, up, lo, rfl, hMB, hMT', hMw', hMR, hML⟩, hwq⟩) (fun z => absurd rfl z)
set_option maxRecDepth 20000 in
theorem lc_ended {sL : Nat} {xs : Nat → Int32} {l : Launch} {K : Nat → xL → List xV → xH → Prop} (hK : YR sL xs l mtL kLaw rt1 K) {i : Nat} (h1 : vp_in (nI (4 * i) + 1) sL) (h2 : vp_in (nI (4 * i) + 2) sL) (h3 : vp_in (nI (4 * i) + 3) sL) {hp : xH} (hX : LX hp) (go : ∀ hp', LX hp' → K 912 (lvL i) [] hp') : K 470 (lvL i) [] hp := by
  obtain ⟨bs, nb, N, mk, w, n, W, rent, mo, L, S, _, _, _, _, _, rfl, hN, hT, hR, hL, hM, hw⟩ := hX
  obtain ⟨ah, en, ow, fr, bd, se, fw, rc, rfl, -⟩ := id hN
  obtain ⟨ma, sz, wk, ax, ay, ak, ob, rfl, -⟩ := id hT
  obtain ⟨M, tr, oo, be, pr, mm, ct, re, gr, sx, rfl, -⟩ := id hR
  obtain ⟨Nn, Ah, En, Ho, Sv, cl, st, un, sh, sd, sf, rfl, -⟩ := id hL
  obtain ⟨th, nk, nt, rm, ln, lg, b1, b2, b3, b4, b5, qma, wa, ta, ha, b6, b7, p1, sa, wh, up, lo, rfl, hMB, hMT, hMw, hMR, hML⟩ := hM
  refine hK [(912, [0, 1, 2, 3])] 70 470 _ _ _ ?_
  refine And.intro h1 ?_
  refine ⟨[0, 6, 7], _, s_ended l N mk w hw _ hT (xs (nI (4 * i) + 1).toNatClampNeg), fun r hc' hP _ => ?_⟩
  obtain ⟨rfl, _, hT1, rfl⟩ := hP
  obtain ⟨ma1, sz1, wk1, ax1, ay1, ak1, ob1, rfl, -⟩ := id hT1
  refine And.intro h1 ?_
  refine ⟨[40, 46], _, m_ended l N mk w nk rm ln lg _ ⟨th, nt, qma, rfl, hMT, hMw⟩ (xs (nI (4 * i) + 1).toNatClampNeg), fun r hc' hP _ => ?_⟩
  obtain ⟨rfl, th', nt', qma', rfl, hMT', hMw'⟩ := hP
  exact And.intro (fun _ => go _ ⟨bs, nb, N, mk, w, n, W, rent, mo, L, S, nkH ah en ow fr bd se fw rc, ntH ma1 sz1 wk1 ax1 ay1 ak1 ob1, rmH M tr oo be pr mm ct re gr sx, lnH Nn Ah En Ho Sv cl st un sh sd sf, mwA th' nk nt' rm ln lg b1 b2 b3 b4 b5 qma' wa ta ha b6 b7 p1 sa wh up lo, rfl, hN, hT1, hR, hL, ⟨th', nk, nt', rm, ln, lg, b1, b2, b3, b4, b5, qma', wa, ta, ha, b6, b7, p1, sa, wh, up, lo, rfl, hMB, hMT', hMw', hMR, hML⟩, hw⟩) (fun z => absurd rfl z)
set_option maxRecDepth 20000 in
theorem lc_people {sL : Nat} {xs : Nat → Int32} {l : Launch} {K : Nat → xL → List xV → xH → Prop} (hK : YR sL xs l mtL kLaw rt1 K) {i : Nat} (h1 : vp_in (nI (4 * i) + 1) sL) (h2 : vp_in (nI (4 * i) + 2) sL) (h3 : vp_in (nI (4 * i) + 3) sL) {hp : xH} (hX : LX hp) (go : ∀ hp', LX hp' → K 912 (lvL i) [] hp') : K 493 (lvL i) [] hp := by
  obtain ⟨bs, nb, N, mk, w, n, W, rent, mo, L, S, _, _, _, _, _, rfl, hN, hT, hR, hL, hM, hw⟩ := hX
  obtain ⟨ah, en, ow, fr, bd, se, fw, rc, rfl, -⟩ := id hN
  obtain ⟨ma, sz, wk, ax, ay, ak, ob, rfl, -⟩ := id hT
  obtain ⟨M, tr, oo, be, pr, mm, ct, re, gr, sx, rfl, -⟩ := id hR
  obtain ⟨Nn, Ah, En, Ho, Sv, cl, st, un, sh, sd, sf, rfl, -⟩ := id hL
  obtain ⟨th, nk, nt, rm, ln, lg, b1, b2, b3, b4, b5, qma, wa, ta, ha, b6, b7, p1, sa, wh, up, lo, rfl, hMB, hMT, hMw, hMR, hML⟩ := hM
  refine hK [(912, [0, 1, 2, 3])] 70 493 _ _ _ ?_
  refine And.intro h1 ?_
  refine ⟨[0, 8, 9, 10, 11, 12, 13, 14, 15, 16, 17, 18, 19, 20], _, s_people l n W rent mo _ hR L S _ hL (xs (nI (4 * i) + 1).toNatClampNeg), fun r hc' hP _ => ?_⟩
  rcases hP with ⟨hk, rfl, _, _, hR1, hL1, rfl⟩ | ⟨hk, rfl, _, _, hR1, hL1, rfl⟩
  · obtain ⟨M1, tr1, oo1, be1, pr1, mm1, ct1, re1, gr1, sx1, rfl, -⟩ := id hR1
    obtain ⟨Nn1, Ah1, En1, Ho1, Sv1, cl1, st1, un1, sh1, sd1, sf1, rfl, -⟩ := id hL1
    refine And.intro h1 ?_
    refine ⟨[40, 47, 48, 53], _, m_people l th nk nt rm ln lg wa ta sa (xs (nI (4 * i) + 1).toNatClampNeg), fun r hc' hP _ => ?_⟩
    rcases hP with ⟨-, rfl, rfl⟩ | ⟨hk2, -⟩
    · exact And.intro (fun _ => go _ ⟨bs, nb, N, mk, w, n, W, rent, mo, L, S, nkH ah en ow fr bd se fw rc, ntH ma sz wk ax ay ak ob, rmH M1 tr1 oo1 be1 pr1 mm1 ct1 re1 gr1 sx1, lnH Nn1 Ah1 En1 Ho1 Sv1 cl1 st1 un1 sh1 sd1 sf1, mwA 0 nk nt rm ln lg b1 b2 b3 b4 b5 qma wa ta ha b6 b7 p1 sa wh up lo, rfl, hN, hT, hR1, hL1, ⟨0, nk, nt, rm, ln, lg, b1, b2, b3, b4, b5, qma, wa, ta, ha, b6, b7, p1, sa, wh, up, lo, rfl, hMB, hMT, hMw, hMR, hML⟩, hw⟩) (fun z => absurd rfl z)
    · rw [hk] at hk2; cases hk2
  · obtain ⟨M1, tr1, oo1, be1, pr1, mm1, ct1, re1, gr1, sx1, rfl, -⟩ := id hR1
    obtain ⟨Nn1, Ah1, En1, Ho1, Sv1, cl1, st1, un1, sh1, sd1, sf1, rfl, -⟩ := id hL1
    refine And.intro h1 ?_
    refine ⟨[40, 47, 48, 53], _, m_people l th nk nt rm ln lg wa ta sa (xs (nI (4 * i) + 1).toNatClampNeg), fun r hc' hP _ => ?_⟩
    rcases hP with ⟨hk2, -⟩ | ⟨-, rfl, wa', ta', sa', hwa, hta, hsa, rfl⟩
    · rw [hk] at hk2; cases hk2
    · have hk3 : 1 ≤ (xs (nI (4 * i) + 1).toNatClampNeg).toInt ∧ (xs (nI (4 * i) + 1).toNatClampNeg).toInt ≤ 5 := of_decide_eq_true hk
      obtain ⟨m, hm, em, hmt⟩ := nI_arg (x := (xs (nI (4 * i) + 1).toNatClampNeg)) (by omega)
      have em2 : (xs (nI (4 * i) + 1).toNatClampNeg).toInt.toNat = m := by rw [hmt]; rfl
      have hR2 : MRB (xs (nI (4 * i) + 1).toNatClampNeg).toInt.toNat W0 0 mo0 (upd (upd rm 0 (xs (nI (4 * i) + 1).toNatClampNeg)) 1 0) wa' ta' := by
        rw [em2]
        refine ⟨by omega, by omega, by omega, em, rfl, fun i j hi hj => ⟨by show 0 ≤ 1000; omega, ?_⟩, MRT_0 (by omega) hta⟩
        rw [hwa _ (by omega)]
        rfl
      have hL2 : MLB (xs (nI (4 * i) + 1).toNatClampNeg).toInt.toNat L W0 (upd (upd rm 0 (xs (nI (4 * i) + 1).toNatClampNeg)) 1 0) ln sa' := by
        have h30 := hML.2.2.2.1
        rw [em2]
        refine ⟨by omega, by omega, hML.2.2.1, hML.2.2.2.1, em, hML.2.2.2.2.2.1, fun p j hp hj => ⟨by show 0 ≤ 30; omega, ?_⟩⟩
        rw [hsa _ (by omega)]
        rfl
      exact And.intro (fun _ => go _ ⟨bs, nb, N, mk, w, ((xs (nI (4 * i) + 1).toNatClampNeg).toInt.toNat), W0, 0, mo0, L, W0, nkH ah en ow fr bd se fw rc, ntH ma sz wk ax ay ak ob, rmH M1 tr1 oo1 be1 pr1 mm1 ct1 re1 gr1 sx1, lnH Nn1 Ah1 En1 Ho1 Sv1 cl1 st1 un1 sh1 sd1 sf1, mwA 0 nk nt (upd (upd rm 0 (xs (nI (4 * i) + 1).toNatClampNeg)) 1 0) ln lg b1 b2 b3 b4 b5 qma wa' ta' ha b6 b7 p1 sa' wh up lo, rfl, hN, hT, hR1, hL1, ⟨0, nk, nt, (upd (upd rm 0 (xs (nI (4 * i) + 1).toNatClampNeg)) 1 0), ln, lg, b1, b2, b3, b4, b5, qma, wa', ta', ha, b6, b7, p1, sa', wh, up, lo, rfl, hMB, hMT, hMw, hR2, hL2⟩, hw⟩) (fun z => absurd rfl z)
set_option maxRecDepth 20000 in
theorem lc_room {sL : Nat} {xs : Nat → Int32} {l : Launch} {K : Nat → xL → List xV → xH → Prop} (hK : YR sL xs l mtL kLaw rt1 K) {i : Nat} (h1 : vp_in (nI (4 * i) + 1) sL) (h2 : vp_in (nI (4 * i) + 2) sL) (h3 : vp_in (nI (4 * i) + 3) sL) {hp : xH} (hX : LX hp) (go : ∀ hp', LX hp' → K 912 (lvL i) [] hp') : K 516 (lvL i) [] hp := by
  obtain ⟨bs, nb, N, mk, w, n, W, rent, mo, L, S, _, _, _, _, _, rfl, hN, hT, hR, hL, hM, hw⟩ := hX
  obtain ⟨ah, en, ow, fr, bd, se, fw, rc, rfl, -⟩ := id hN
  obtain ⟨ma, sz, wk, ax, ay, ak, ob, rfl, -⟩ := id hT
  obtain ⟨M, tr, oo, be, pr, mm, ct, re, gr, sx, rfl, -⟩ := id hR
  obtain ⟨Nn, Ah, En, Ho, Sv, cl, st, un, sh, sd, sf, rfl, -⟩ := id hL
  obtain ⟨th, nk, nt, rm, ln, lg, b1, b2, b3, b4, b5, qma, wa, ta, ha, b6, b7, p1, sa, wh, up, lo, rfl, hMB, hMT, hMw, hMR, hML⟩ := hM
  refine hK [(912, [0, 1, 2, 3])] 70 516 _ _ _ ?_
  refine And.intro h1 ?_
  refine And.intro h2 ?_
  refine And.intro h3 ?_
  refine ⟨[0, 8, 9, 10, 11, 12, 13, 14], _, s_room l n W rent mo _ hR (xs (nI (4 * i) + 1).toNatClampNeg) (xs (nI (4 * i) + 2).toNatClampNeg) (xs (nI (4 * i) + 3).toNatClampNeg), fun r hc' hP _ => ?_⟩
  obtain ⟨rfl, _, hR1, rfl⟩ := hP
  obtain ⟨M1, tr1, oo1, be1, pr1, mm1, ct1, re1, gr1, sx1, rfl, -⟩ := id hR1
  refine And.intro h1 ?_
  refine And.intro h2 ?_
  refine And.intro h3 ?_
  refine ⟨[40, 47, 48, 49, 50, 51, 52], _, m_room l n W rent mo nk nt ln lg _ ⟨th, rm, wa, ta, ha, b6, b7, p1, rfl, hMR⟩ (xs (nI (4 * i) + 1).toNatClampNeg) (xs (nI (4 * i) + 2).toNatClampNeg) (xs (nI (4 * i) + 3).toNatClampNeg), fun r hc' hP _ => ?_⟩
  obtain ⟨rfl, th', rm', wa', ta', ha', b6', b7', p1', rfl, hMR'⟩ := hP
  exact And.intro (fun _ => go _ ⟨bs, nb, N, mk, w, n, (sRoom n W (xs (nI (4 * i) + 1).toNatClampNeg) (xs (nI (4 * i) + 2).toNatClampNeg) (xs (nI (4 * i) + 3).toNatClampNeg)), rent, (moIf (okRoom n (xs (nI (4 * i) + 1).toNatClampNeg) (xs (nI (4 * i) + 2).toNatClampNeg) (xs (nI (4 * i) + 3).toNatClampNeg)) mo), L, S, nkH ah en ow fr bd se fw rc, ntH ma sz wk ax ay ak ob, rmH M1 tr1 oo1 be1 pr1 mm1 ct1 re1 gr1 sx1, lnH Nn Ah En Ho Sv cl st un sh sd sf, mwA th' nk nt rm' ln lg b1 b2 b3 b4 b5 qma wa' ta' ha' b6' b7' p1' sa wh up lo, rfl, hN, hT, hR1, hL, ⟨th', nk, nt, rm', ln, lg, b1, b2, b3, b4, b5, qma, wa', ta', ha', b6', b7', p1', sa, wh, up, lo, rfl, hMB, hMT, hMw, hMR', ⟨hML.1, hML.2.1, hML.2.2.1, hML.2.2.2.1, hMR'.2.2.2.1, hML.2.2.2.2.2⟩⟩, hw⟩) (fun z => absurd rfl z)
set_option maxRecDepth 20000 in
theorem lc_rent {sL : Nat} {xs : Nat → Int32} {l : Launch} {K : Nat → xL → List xV → xH → Prop} (hK : YR sL xs l mtL kLaw rt1 K) {i : Nat} (h1 : vp_in (nI (4 * i) + 1) sL) (h2 : vp_in (nI (4 * i) + 2) sL) (h3 : vp_in (nI (4 * i) + 3) sL) {hp : xH} (hX : LX hp) (go : ∀ hp', LX hp' → K 912 (lvL i) [] hp') : K 559 (lvL i) [] hp := by
  obtain ⟨bs, nb, N, mk, w, n, W, rent, mo, L, S, _, _, _, _, _, rfl, hN, hT, hR, hL, hM, hw⟩ := hX
  obtain ⟨ah, en, ow, fr, bd, se, fw, rc, rfl, -⟩ := id hN
  obtain ⟨ma, sz, wk, ax, ay, ak, ob, rfl, -⟩ := id hT
  obtain ⟨M, tr, oo, be, pr, mm, ct, re, gr, sx, rfl, -⟩ := id hR
  obtain ⟨Nn, Ah, En, Ho, Sv, cl, st, un, sh, sd, sf, rfl, -⟩ := id hL
  obtain ⟨th, nk, nt, rm, ln, lg, b1, b2, b3, b4, b5, qma, wa, ta, ha, b6, b7, p1, sa, wh, up, lo, rfl, hMB, hMT, hMw, hMR, hML⟩ := hM
  refine hK [(912, [0, 1, 2, 3])] 70 559 _ _ _ ?_
  refine And.intro h1 ?_
  refine ⟨[0, 8, 9, 10, 11, 12, 13, 14], _, s_rent l n W rent mo _ hR (xs (nI (4 * i) + 1).toNatClampNeg), fun r hc' hP _ => ?_⟩
  obtain ⟨rfl, _, hR1, rfl⟩ := hP
  obtain ⟨M1, tr1, oo1, be1, pr1, mm1, ct1, re1, gr1, sx1, rfl, -⟩ := id hR1
  refine And.intro h1 ?_
  refine ⟨[40, 47, 48, 49, 50, 51, 52], _, m_rent l n W rent mo nk nt ln lg _ ⟨th, rm, wa, ta, ha, b6, b7, p1, rfl, hMR⟩ (xs (nI (4 * i) + 1).toNatClampNeg), fun r hc' hP _ => ?_⟩
  obtain ⟨rfl, th', rm', wa', ta', ha', b6', b7', p1', rfl, hMR'⟩ := hP
  exact And.intro (fun _ => go _ ⟨bs, nb, N, mk, w, n, W, (sRent rent (xs (nI (4 * i) + 1).toNatClampNeg)), (moIf (okRent (xs (nI (4 * i) + 1).toNatClampNeg)) mo), L, S, nkH ah en ow fr bd se fw rc, ntH ma sz wk ax ay ak ob, rmH M1 tr1 oo1 be1 pr1 mm1 ct1 re1 gr1 sx1, lnH Nn Ah En Ho Sv cl st un sh sd sf, mwA th' nk nt rm' ln lg b1 b2 b3 b4 b5 qma wa' ta' ha' b6' b7' p1' sa wh up lo, rfl, hN, hT, hR1, hL, ⟨th', nk, nt, rm', ln, lg, b1, b2, b3, b4, b5, qma, wa', ta', ha', b6', b7', p1', sa, wh, up, lo, rfl, hMB, hMT, hMw, hMR', ⟨hML.1, hML.2.1, hML.2.2.1, hML.2.2.2.1, hMR'.2.2.2.1, hML.2.2.2.2.2⟩⟩, hw⟩) (fun z => absurd rfl z)
set_option maxRecDepth 20000 in
theorem lc_best {sL : Nat} {xs : Nat → Int32} {l : Launch} {K : Nat → xL → List xV → xH → Prop} (hK : YR sL xs l mtL kLaw rt1 K) {i : Nat} (h1 : vp_in (nI (4 * i) + 1) sL) (h2 : vp_in (nI (4 * i) + 2) sL) (h3 : vp_in (nI (4 * i) + 3) sL) {hp : xH} (hX : LX hp) (go : ∀ hp', LX hp' → K 912 (lvL i) [] hp') : K 582 (lvL i) [] hp := by
  obtain ⟨bs, nb, N, mk, w, n, W, rent, mo, L, S, _, _, _, _, _, rfl, hN, hT, hR, hL, hM, hw⟩ := hX
  obtain ⟨ah, en, ow, fr, bd, se, fw, rc, rfl, -⟩ := id hN
  obtain ⟨ma, sz, wk, ax, ay, ak, ob, rfl, -⟩ := id hT
  obtain ⟨M, tr, oo, be, pr, mm, ct, re, gr, sx, rfl, -⟩ := id hR
  obtain ⟨Nn, Ah, En, Ho, Sv, cl, st, un, sh, sd, sf, rfl, -⟩ := id hL
  obtain ⟨th, nk, nt, rm, ln, lg, b1, b2, b3, b4, b5, qma, wa, ta, ha, b6, b7, p1, sa, wh, up, lo, rfl, hMB, hMT, hMw, hMR, hML⟩ := hM
  refine hK [(912, [0, 1, 2, 3])] 70 582 _ _ _ ?_
  refine ⟨[0, 8, 9, 10, 11, 12, 13, 14], _, s_best l n W rent mo _ hR , fun r hc' hP _ => ?_⟩
  obtain ⟨rfl, _, hR1, rfl⟩ := hP
  obtain ⟨M1, tr1, oo1, be1, pr1, mm1, ct1, re1, gr1, sx1, rfl, -⟩ := id hR1
  refine ⟨[40, 47, 48, 49, 50, 51, 52], _, m_best l n W rent mo nk nt ln lg _ ⟨th, rm, wa, ta, ha, b6, b7, p1, rfl, hMR⟩ , fun r hc' hP _ => ?_⟩
  obtain ⟨rfl, th', rm', wa', ta', ha', b6', b7', p1', rfl, hMR'⟩ := hP
  exact And.intro (fun _ => go _ ⟨bs, nb, N, mk, w, n, W, rent, mo, L, S, nkH ah en ow fr bd se fw rc, ntH ma sz wk ax ay ak ob, rmH M1 tr1 oo1 be1 pr1 mm1 ct1 re1 gr1 sx1, lnH Nn Ah En Ho Sv cl st un sh sd sf, mwA th' nk nt rm' ln lg b1 b2 b3 b4 b5 qma wa' ta' ha' b6' b7' p1' sa wh up lo, rfl, hN, hT, hR1, hL, ⟨th', nk, nt, rm', ln, lg, b1, b2, b3, b4, b5, qma, wa', ta', ha', b6', b7', p1', sa, wh, up, lo, rfl, hMB, hMT, hMw, hMR', ⟨hML.1, hML.2.1, hML.2.2.1, hML.2.2.2.1, hMR'.2.2.2.1, hML.2.2.2.2.2⟩⟩, hw⟩) (fun z => absurd rfl z)
set_option maxRecDepth 20000 in
theorem lc_has {sL : Nat} {xs : Nat → Int32} {l : Launch} {K : Nat → xL → List xV → xH → Prop} (hK : YR sL xs l mtL kLaw rt1 K) {i : Nat} (h1 : vp_in (nI (4 * i) + 1) sL) (h2 : vp_in (nI (4 * i) + 2) sL) (h3 : vp_in (nI (4 * i) + 3) sL) {hp : xH} (hX : LX hp) (go : ∀ hp', LX hp' → K 912 (lvL i) [] hp') : K 595 (lvL i) [] hp := by
  obtain ⟨bs, nb, N, mk, w, n, W, rent, mo, L, S, _, _, _, _, _, rfl, hN, hT, hR, hL, hM, hw⟩ := hX
  obtain ⟨ah, en, ow, fr, bd, se, fw, rc, rfl, -⟩ := id hN
  obtain ⟨ma, sz, wk, ax, ay, ak, ob, rfl, -⟩ := id hT
  obtain ⟨M, tr, oo, be, pr, mm, ct, re, gr, sx, rfl, -⟩ := id hR
  obtain ⟨Nn, Ah, En, Ho, Sv, cl, st, un, sh, sd, sf, rfl, -⟩ := id hL
  obtain ⟨th, nk, nt, rm, ln, lg, b1, b2, b3, b4, b5, qma, wa, ta, ha, b6, b7, p1, sa, wh, up, lo, rfl, hMB, hMT, hMw, hMR, hML⟩ := hM
  refine hK [(912, [0, 1, 2, 3])] 70 595 _ _ _ ?_
  refine And.intro h1 ?_
  refine ⟨[0, 8, 9, 10, 11, 12, 13, 14], _, s_has l n W rent mo _ hR (xs (nI (4 * i) + 1).toNatClampNeg), fun r hc' hP _ => ?_⟩
  obtain ⟨rfl, _, hR1, rfl⟩ := hP
  obtain ⟨M1, tr1, oo1, be1, pr1, mm1, ct1, re1, gr1, sx1, rfl, -⟩ := id hR1
  refine And.intro h1 ?_
  refine ⟨[40, 47, 48, 49, 50, 51, 52], _, m_has l n W rent mo nk nt ln lg _ ⟨th, rm, wa, ta, ha, b6, b7, p1, rfl, hMR⟩ (xs (nI (4 * i) + 1).toNatClampNeg), fun r hc' hP _ => ?_⟩
  obtain ⟨rfl, th', rm', wa', ta', ha', b6', b7', p1', rfl, hMR'⟩ := hP
  exact And.intro (fun _ => go _ ⟨bs, nb, N, mk, w, n, W, rent, mo, L, S, nkH ah en ow fr bd se fw rc, ntH ma sz wk ax ay ak ob, rmH M1 tr1 oo1 be1 pr1 mm1 ct1 re1 gr1 sx1, lnH Nn Ah En Ho Sv cl st un sh sd sf, mwA th' nk nt rm' ln lg b1 b2 b3 b4 b5 qma wa' ta' ha' b6' b7' p1' sa wh up lo, rfl, hN, hT, hR1, hL, ⟨th', nk, nt, rm', ln, lg, b1, b2, b3, b4, b5, qma, wa', ta', ha', b6', b7', p1', sa, wh, up, lo, rfl, hMB, hMT, hMw, hMR', ⟨hML.1, hML.2.1, hML.2.2.1, hML.2.2.2.1, hMR'.2.2.2.1, hML.2.2.2.2.2⟩⟩, hw⟩) (fun z => absurd rfl z)
