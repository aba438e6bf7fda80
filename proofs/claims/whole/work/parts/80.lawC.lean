set_option maxRecDepth 20000 in
theorem lc_price {sL : Nat} {xs : Nat → Int32} {l : Launch} {K : Nat → xL → List xV → xH → Prop} (hK : YR sL xs l mtL kLaw rt1 K) {i : Nat} (h1 : vp_in (nI (4 * i) + 1) sL) (h2 : vp_in (nI (4 * i) + 2) sL) (h3 : vp_in (nI (4 * i) + 3) sL) {hp : xH} (hX : LX hp) (go : ∀ hp', LX hp' → K 912 (lvL i) [] hp') : K 618 (lvL i) [] hp := by
  obtain ⟨bs, nb, N, mk, w, n, W, rent, mo, L, S, _, _, _, _, _, rfl, hN, hT, hR, hL, hM, hw⟩ := hX
  obtain ⟨ah, en, ow, fr, bd, se, fw, rc, rfl, -⟩ := id hN
  obtain ⟨ma, sz, wk, ax, ay, ak, ob, rfl, -⟩ := id hT
  obtain ⟨M, tr, oo, be, pr, mm, ct, re, gr, sx, rfl, -⟩ := id hR
  obtain ⟨Nn, Ah, En, Ho, Sv, cl, st, un, sh, sd, sf, rfl, -⟩ := id hL
  obtain ⟨th, nk, nt, rm, ln, lg, b1, b2, b3, b4, b5, qma, wa, ta, ha, b6, b7, p1, sa, wh, up, lo, rfl, hMB, hMT, hMw, hMR, hML⟩ := hM
  refine hK [(912, [0, 1, 2, 3])] 70 618 _ _ _ ?_
  refine And.intro h1 ?_
  refine ⟨[0, 8, 9, 10, 11, 12, 13, 14], _, s_price l n W rent mo _ hR (xs (nI (4 * i) + 1).toNatClampNeg), fun r hc' hP _ => ?_⟩
  obtain ⟨rfl, _, hR1, rfl⟩ := hP
  obtain ⟨M1, tr1, oo1, be1, pr1, mm1, ct1, re1, gr1, sx1, rfl, -⟩ := id hR1
  refine And.intro h1 ?_
  refine ⟨[40, 47, 48, 49, 50, 51, 52], _, m_price l n W rent mo nk nt ln lg _ ⟨th, rm, wa, ta, ha, b6, b7, p1, rfl, hMR⟩ (xs (nI (4 * i) + 1).toNatClampNeg), fun r hc' hP _ => ?_⟩
  obtain ⟨rfl, th', rm', wa', ta', ha', b6', b7', p1', rfl, hMR'⟩ := hP
  exact And.intro (fun _ => go _ ⟨bs, nb, N, mk, w, n, W, rent, mo, L, S, nkH ah en ow fr bd se fw rc, ntH ma sz wk ax ay ak ob, rmH M1 tr1 oo1 be1 pr1 mm1 ct1 re1 gr1 sx1, lnH Nn Ah En Ho Sv cl st un sh sd sf, mwA th' nk nt rm' ln lg b1 b2 b3 b4 b5 qma wa' ta' ha' b6' b7' p1' sa wh up lo, rfl, hN, hT, hR1, hL, ⟨th', nk, nt, rm', ln, lg, b1, b2, b3, b4, b5, qma, wa', ta', ha', b6', b7', p1', sa, wh, up, lo, rfl, hMB, hMT, hMw, hMR', ⟨hML.1, hML.2.1, hML.2.2.1, hML.2.2.2.1, hMR'.2.2.2.1, hML.2.2.2.2.2⟩⟩, hw⟩) (fun z => absurd rfl z)
set_option maxRecDepth 20000 in
theorem lc_grudge {sL : Nat} {xs : Nat → Int32} {l : Launch} {K : Nat → xL → List xV → xH → Prop} (hK : YR sL xs l mtL kLaw rt1 K) {i : Nat} (h1 : vp_in (nI (4 * i) + 1) sL) (h2 : vp_in (nI (4 * i) + 2) sL) (h3 : vp_in (nI (4 * i) + 3) sL) {hp : xH} (hX : LX hp) (go : ∀ hp', LX hp' → K 912 (lvL i) [] hp') : K 642 (lvL i) [] hp := by
  obtain ⟨bs, nb, N, mk, w, n, W, rent, mo, L, S, _, _, _, _, _, rfl, hN, hT, hR, hL, hM, hw⟩ := hX
  obtain ⟨ah, en, ow, fr, bd, se, fw, rc, rfl, -⟩ := id hN
  obtain ⟨ma, sz, wk, ax, ay, ak, ob, rfl, -⟩ := id hT
  obtain ⟨M, tr, oo, be, pr, mm, ct, re, gr, sx, rfl, -⟩ := id hR
  obtain ⟨Nn, Ah, En, Ho, Sv, cl, st, un, sh, sd, sf, rfl, -⟩ := id hL
  obtain ⟨th, nk, nt, rm, ln, lg, b1, b2, b3, b4, b5, qma, wa, ta, ha, b6, b7, p1, sa, wh, up, lo, rfl, hMB, hMT, hMw, hMR, hML⟩ := hM
  refine hK [(912, [0, 1, 2, 3])] 70 642 _ _ _ ?_
  refine And.intro h1 ?_
  refine And.intro h2 ?_
  refine ⟨[0, 8, 9, 10, 11, 12, 13, 14], _, s_grudge l n W rent mo _ hR (xs (nI (4 * i) + 1).toNatClampNeg) (xs (nI (4 * i) + 2).toNatClampNeg), fun r hc' hP _ => ?_⟩
  obtain ⟨rfl, _, hR1, rfl⟩ := hP
  obtain ⟨M1, tr1, oo1, be1, pr1, mm1, ct1, re1, gr1, sx1, rfl, -⟩ := id hR1
  refine And.intro h1 ?_
  refine And.intro h2 ?_
  refine ⟨[40, 47, 48, 49, 50, 51, 52], _, m_grudge l n W rent mo nk nt ln lg _ ⟨th, rm, wa, ta, ha, b6, b7, p1, rfl, hMR⟩ (xs (nI (4 * i) + 1).toNatClampNeg) (xs (nI (4 * i) + 2).toNatClampNeg), fun r hc' hP _ => ?_⟩
  obtain ⟨rfl, th', rm', wa', ta', ha', b6', b7', p1', rfl, hMR'⟩ := hP
  exact And.intro (fun _ => go _ ⟨bs, nb, N, mk, w, n, W, rent, mo, L, S, nkH ah en ow fr bd se fw rc, ntH ma sz wk ax ay ak ob, rmH M1 tr1 oo1 be1 pr1 mm1 ct1 re1 gr1 sx1, lnH Nn Ah En Ho Sv cl st un sh sd sf, mwA th' nk nt rm' ln lg b1 b2 b3 b4 b5 qma wa' ta' ha' b6' b7' p1' sa wh up lo, rfl, hN, hT, hR1, hL, ⟨th', nk, nt, rm', ln, lg, b1, b2, b3, b4, b5, qma, wa', ta', ha', b6', b7', p1', sa, wh, up, lo, rfl, hMB, hMT, hMw, hMR', ⟨hML.1, hML.2.1, hML.2.2.1, hML.2.2.2.1, hMR'.2.2.2.1, hML.2.2.2.2.2⟩⟩, hw⟩) (fun z => absurd rfl z)
set_option maxRecDepth 20000 in
theorem lc_turned {sL : Nat} {xs : Nat → Int32} {l : Launch} {K : Nat → xL → List xV → xH → Prop} (hK : YR sL xs l mtL kLaw rt1 K) {i : Nat} (h1 : vp_in (nI (4 * i) + 1) sL) (h2 : vp_in (nI (4 * i) + 2) sL) (h3 : vp_in (nI (4 * i) + 3) sL) {hp : xH} (hX : LX hp) (go : ∀ hp', LX hp' → K 912 (lvL i) [] hp') : K 676 (lvL i) [] hp := by
  obtain ⟨bs, nb, N, mk, w, n, W, rent, mo, L, S, _, _, _, _, _, rfl, hN, hT, hR, hL, hM, hw⟩ := hX
  obtain ⟨ah, en, ow, fr, bd, se, fw, rc, rfl, -⟩ := id hN
  obtain ⟨ma, sz, wk, ax, ay, ak, ob, rfl, -⟩ := id hT
  obtain ⟨M, tr, oo, be, pr, mm, ct, re, gr, sx, rfl, -⟩ := id hR
  obtain ⟨Nn, Ah, En, Ho, Sv, cl, st, un, sh, sd, sf, rfl, -⟩ := id hL
  obtain ⟨th, nk, nt, rm, ln, lg, b1, b2, b3, b4, b5, qma, wa, ta, ha, b6, b7, p1, sa, wh, up, lo, rfl, hMB, hMT, hMw, hMR, hML⟩ := hM
  refine hK [(912, [0, 1, 2, 3])] 70 676 _ _ _ ?_
  refine And.intro h1 ?_
  refine And.intro h2 ?_
  refine ⟨[0, 8, 9, 10, 11, 12, 13, 14], _, s_turned l n W rent mo _ hR (xs (nI (4 * i) + 1).toNatClampNeg) (xs (nI (4 * i) + 2).toNatClampNeg), fun r hc' hP _ => ?_⟩
  obtain ⟨rfl, _, hR1, rfl⟩ := hP
  obtain ⟨M1, tr1, oo1, be1, pr1, mm1, ct1, re1, gr1, sx1, rfl, -⟩ := id hR1
  refine And.intro h1 ?_
  refine And.intro h2 ?_
  refine ⟨[40, 47, 48, 49, 50, 51, 52], _, m_turned l n W rent mo nk nt ln lg _ ⟨th, rm, wa, ta, ha, b6, b7, p1, rfl, hMR⟩ (xs (nI (4 * i) + 1).toNatClampNeg) (xs (nI (4 * i) + 2).toNatClampNeg), fun r hc' hP _ => ?_⟩
  obtain ⟨rfl, th', rm', wa', ta', ha', b6', b7', p1', rfl, hMR'⟩ := hP
  exact And.intro (fun _ => go _ ⟨bs, nb, N, mk, w, n, W, rent, (sTurn n mo (xs (nI (4 * i) + 1).toNatClampNeg) (xs (nI (4 * i) + 2).toNatClampNeg)), L, S, nkH ah en ow fr bd se fw rc, ntH ma sz wk ax ay ak ob, rmH M1 tr1 oo1 be1 pr1 mm1 ct1 re1 gr1 sx1, lnH Nn Ah En Ho Sv cl st un sh sd sf, mwA th' nk nt rm' ln lg b1 b2 b3 b4 b5 qma wa' ta' ha' b6' b7' p1' sa wh up lo, rfl, hN, hT, hR1, hL, ⟨th', nk, nt, rm', ln, lg, b1, b2, b3, b4, b5, qma, wa', ta', ha', b6', b7', p1', sa, wh, up, lo, rfl, hMB, hMT, hMw, hMR', ⟨hML.1, hML.2.1, hML.2.2.1, hML.2.2.2.1, hMR'.2.2.2.1, hML.2.2.2.2.2⟩⟩, hw⟩) (fun z => absurd rfl z)
set_option maxRecDepth 20000 in
theorem lc_check {sL : Nat} {xs : Nat → Int32} {l : Launch} {K : Nat → xL → List xV → xH → Prop} (hK : YR sL xs l mtL kLaw rt1 K) {i : Nat} (h1 : vp_in (nI (4 * i) + 1) sL) (h2 : vp_in (nI (4 * i) + 2) sL) (h3 : vp_in (nI (4 * i) + 3) sL) {hp : xH} (hX : LX hp) (go : ∀ hp', LX hp' → K 912 (lvL i) [] hp') : K 709 (lvL i) [] hp := by
  obtain ⟨bs, nb, N, mk, w, n, W, rent, mo, L, S, _, _, _, _, _, rfl, hN, hT, hR, hL, hM, hw⟩ := hX
  obtain ⟨ah, en, ow, fr, bd, se, fw, rc, rfl, -⟩ := id hN
  obtain ⟨ma, sz, wk, ax, ay, ak, ob, rfl, -⟩ := id hT
  obtain ⟨M, tr, oo, be, pr, mm, ct, re, gr, sx, rfl, -⟩ := id hR
  obtain ⟨Nn, Ah, En, Ho, Sv, cl, st, un, sh, sd, sf, rfl, -⟩ := id hL
  obtain ⟨th, nk, nt, rm, ln, lg, b1, b2, b3, b4, b5, qma, wa, ta, ha, b6, b7, p1, sa, wh, up, lo, rfl, hMB, hMT, hMw, hMR, hML⟩ := hM
  refine hK [(912, [0, 1, 2, 3])] 70 709 _ _ _ ?_
  refine ⟨[0, 8, 9, 10, 11, 12, 13, 14], _, s_check l n W rent mo _ hR , fun r hc' hP _ => ?_⟩
  obtain ⟨⟨v1, rfl, hv1⟩, _, hR1, rfl⟩ := hP
  obtain ⟨M1, tr1, oo1, be1, pr1, mm1, ct1, re1, gr1, sx1, rfl, -⟩ := id hR1
  refine ⟨[40, 47, 48, 49, 50, 51, 52], _, m_check l n W rent mo nk nt ln lg _ ⟨th, rm, wa, ta, ha, b6, b7, p1, rfl, hMR⟩ , fun r hc' hP _ => ?_⟩
  obtain ⟨⟨v2, rfl, hv2⟩, th', rm', wa', ta', ha', b6', b7', p1', rfl, hMR'⟩ := hP
  have e := chkV_one hv1 hv2
  subst e
  exact And.intro (fun _ => go _ ⟨bs, nb, N, mk, w, n, W, rent, mo, L, S, nkH ah en ow fr bd se fw rc, ntH ma sz wk ax ay ak ob, rmH M1 tr1 oo1 be1 pr1 mm1 ct1 re1 gr1 sx1, lnH Nn Ah En Ho Sv cl st un sh sd sf, mwA th' nk nt rm' ln lg b1 b2 b3 b4 b5 qma wa' ta' ha' b6' b7' p1' sa wh up lo, rfl, hN, hT, hR1, hL, ⟨th', nk, nt, rm', ln, lg, b1, b2, b3, b4, b5, qma, wa', ta', ha', b6', b7', p1', sa, wh, up, lo, rfl, hMB, hMT, hMw, hMR', ⟨hML.1, hML.2.1, hML.2.2.1, hML.2.2.2.1, hMR'.2.2.2.1, hML.2.2.2.2.2⟩⟩, hw⟩) (fun z => absurd rfl z)
set_option maxRecDepth 20000 in
theorem lc_line {sL : Nat} {xs : Nat → Int32} {l : Launch} {K : Nat → xL → List xV → xH → Prop} (hK : YR sL xs l mtL kLaw rt1 K) {i : Nat} (h1 : vp_in (nI (4 * i) + 1) sL) (h2 : vp_in (nI (4 * i) + 2) sL) (h3 : vp_in (nI (4 * i) + 3) sL) {hp : xH} (hX : LX hp) (go : ∀ hp', LX hp' → K 912 (lvL i) [] hp') : K 722 (lvL i) [] hp := by
  obtain ⟨bs, nb, N, mk, w, n, W, rent, mo, L, S, _, _, _, _, _, rfl, hN, hT, hR, hL, hM, hw⟩ := hX
  obtain ⟨ah, en, ow, fr, bd, se, fw, rc, rfl, -⟩ := id hN
  obtain ⟨ma, sz, wk, ax, ay, ak, ob, rfl, -⟩ := id hT
  obtain ⟨M, tr, oo, be, pr, mm, ct, re, gr, sx, rfl, -⟩ := id hR
  obtain ⟨Nn, Ah, En, Ho, Sv, cl, st, un, sh, sd, sf, rfl, -⟩ := id hL
  obtain ⟨th, nk, nt, rm, ln, lg, b1, b2, b3, b4, b5, qma, wa, ta, ha, b6, b7, p1, sa, wh, up, lo, rfl, hMB, hMT, hMw, hMR, hML⟩ := hM
  refine hK [(912, [0, 1, 2, 3])] 70 722 _ _ _ ?_
  refine And.intro h1 ?_
  refine ⟨[0, 15, 16, 17, 18, 19, 20], _, s_line l n L S _ hL (xs (nI (4 * i) + 1).toNatClampNeg), fun r hc' hP _ => ?_⟩
  obtain ⟨rfl, _, hL1, rfl⟩ := hP
  obtain ⟨Nn1, Ah1, En1, Ho1, Sv1, cl1, st1, un1, sh1, sd1, sf1, rfl, -⟩ := id hL1
  refine And.intro h1 ?_
  refine ⟨[40, 53, 54, 55, 56], _, m_line l n L S nk nt rm _ ⟨th, ln, lg, sa, wh, up, lo, rfl, hML⟩ (xs (nI (4 * i) + 1).toNatClampNeg), fun r hc' hP _ => ?_⟩
  obtain ⟨rfl, th', ln', lg', sa', wh', up', lo', rfl, hML'⟩ := hP
  exact And.intro (fun _ => go _ ⟨bs, nb, N, mk, w, n, W, rent, mo, (sLen L (xs (nI (4 * i) + 1).toNatClampNeg)), (sLin S (xs (nI (4 * i) + 1).toNatClampNeg)), nkH ah en ow fr bd se fw rc, ntH ma sz wk ax ay ak ob, rmH M tr oo be pr mm ct re gr sx, lnH Nn1 Ah1 En1 Ho1 Sv1 cl1 st1 un1 sh1 sd1 sf1, mwA th' nk nt rm ln' lg' b1 b2 b3 b4 b5 qma wa ta ha b6 b7 p1 sa' wh' up' lo', rfl, hN, hT, hR, hL1, ⟨th', nk, nt, rm, ln', lg', b1, b2, b3, b4, b5, qma, wa, ta, ha, b6, b7, p1, sa', wh', up', lo', rfl, hMB, hMT, hMw, hMR, hML'⟩, hw⟩) (fun z => absurd rfl z)
set_option maxRecDepth 20000 in
theorem lc_stretch {sL : Nat} {xs : Nat → Int32} {l : Launch} {K : Nat → xL → List xV → xH → Prop} (hK : YR sL xs l mtL kLaw rt1 K) {i : Nat} (h1 : vp_in (nI (4 * i) + 1) sL) (h2 : vp_in (nI (4 * i) + 2) sL) (h3 : vp_in (nI (4 * i) + 3) sL) {hp : xH} (hX : LX hp) (go : ∀ hp', LX hp' → K 912 (lvL i) [] hp') : K 745 (lvL i) [] hp := by
  obtain ⟨bs, nb, N, mk, w, n, W, rent, mo, L, S, _, _, _, _, _, rfl, hN, hT, hR, hL, hM, hw⟩ := hX
  obtain ⟨ah, en, ow, fr, bd, se, fw, rc, rfl, -⟩ := id hN
  obtain ⟨ma, sz, wk, ax, ay, ak, ob, rfl, -⟩ := id hT
  obtain ⟨M, tr, oo, be, pr, mm, ct, re, gr, sx, rfl, -⟩ := id hR
  obtain ⟨Nn, Ah, En, Ho, Sv, cl, st, un, sh, sd, sf, rfl, -⟩ := id hL
  obtain ⟨th, nk, nt, rm, ln, lg, b1, b2, b3, b4, b5, qma, wa, ta, ha, b6, b7, p1, sa, wh, up, lo, rfl, hMB, hMT, hMw, hMR, hML⟩ := hM
  refine hK [(912, [0, 1, 2, 3])] 70 745 _ _ _ ?_
  refine And.intro h1 ?_
  refine And.intro h2 ?_
  refine And.intro h3 ?_
  refine ⟨[0, 15, 16, 17, 18, 19, 20], _, s_stretch l n L S _ hL (xs (nI (4 * i) + 1).toNatClampNeg) (xs (nI (4 * i) + 2).toNatClampNeg) (xs (nI (4 * i) + 3).toNatClampNeg), fun r hc' hP _ => ?_⟩
  obtain ⟨rfl, _, hL1, rfl⟩ := hP
  obtain ⟨Nn1, Ah1, En1, Ho1, Sv1, cl1, st1, un1, sh1, sd1, sf1, rfl, -⟩ := id hL1
  refine And.intro h1 ?_
  refine And.intro h2 ?_
  refine And.intro h3 ?_
  refine ⟨[40, 53, 54, 55, 56], _, m_stretch l n L S nk nt rm _ ⟨th, ln, lg, sa, wh, up, lo, rfl, hML⟩ (xs (nI (4 * i) + 1).toNatClampNeg) (xs (nI (4 * i) + 2).toNatClampNeg) (xs (nI (4 * i) + 3).toNatClampNeg), fun r hc' hP _ => ?_⟩
  obtain ⟨rfl, th', ln', lg', sa', wh', up', lo', rfl, hML'⟩ := hP
  exact And.intro (fun _ => go _ ⟨bs, nb, N, mk, w, n, W, rent, mo, L, (sStr n L S (xs (nI (4 * i) + 1).toNatClampNeg) (xs (nI (4 * i) + 2).toNatClampNeg) (xs (nI (4 * i) + 3).toNatClampNeg)), nkH ah en ow fr bd se fw rc, ntH ma sz wk ax ay ak ob, rmH M tr oo be pr mm ct re gr sx, lnH Nn1 Ah1 En1 Ho1 Sv1 cl1 st1 un1 sh1 sd1 sf1, mwA th' nk nt rm ln' lg' b1 b2 b3 b4 b5 qma wa ta ha b6 b7 p1 sa' wh' up' lo', rfl, hN, hT, hR, hL1, ⟨th', nk, nt, rm, ln', lg', b1, b2, b3, b4, b5, qma, wa, ta, ha, b6, b7, p1, sa', wh', up', lo', rfl, hMB, hMT, hMw, hMR, hML'⟩, hw⟩) (fun z => absurd rfl z)
set_option maxRecDepth 20000 in
theorem lc_who {sL : Nat} {xs : Nat → Int32} {l : Launch} {K : Nat → xL → List xV → xH → Prop} (hK : YR sL xs l mtL kLaw rt1 K) {i : Nat} (h1 : vp_in (nI (4 * i) + 1) sL) (h2 : vp_in (nI (4 * i) + 2) sL) (h3 : vp_in (nI (4 * i) + 3) sL) {hp : xH} (hX : LX hp) (go : ∀ hp', LX hp' → K 912 (lvL i) [] hp') : K 788 (lvL i) [] hp := by
  obtain ⟨bs, nb, N, mk, w, n, W, rent, mo, L, S, _, _, _, _, _, rfl, hN, hT, hR, hL, hM, hw⟩ := hX
  obtain ⟨ah, en, ow, fr, bd, se, fw, rc, rfl, -⟩ := id hN
  obtain ⟨ma, sz, wk, ax, ay, ak, ob, rfl, -⟩ := id hT
  obtain ⟨M, tr, oo, be, pr, mm, ct, re, gr, sx, rfl, -⟩ := id hR
  obtain ⟨Nn, Ah, En, Ho, Sv, cl, st, un, sh, sd, sf, rfl, -⟩ := id hL
  obtain ⟨th, nk, nt, rm, ln, lg, b1, b2, b3, b4, b5, qma, wa, ta, ha, b6, b7, p1, sa, wh, up, lo, rfl, hMB, hMT, hMw, hMR, hML⟩ := hM
  refine hK [(912, [0, 1, 2, 3])] 70 788 _ _ _ ?_
  refine And.intro h1 ?_
  refine ⟨[0, 15, 16, 17, 18, 19, 20], _, s_who l n L S _ hL (xs (nI (4 * i) + 1).toNatClampNeg), fun r hc' hP _ => ?_⟩
  obtain ⟨rfl, _, hL1, rfl⟩ := hP
  obtain ⟨Nn1, Ah1, En1, Ho1, Sv1, cl1, st1, un1, sh1, sd1, sf1, rfl, -⟩ := id hL1
  refine And.intro h1 ?_
  refine ⟨[40, 53, 54, 55, 56], _, m_who l n L S nk nt rm _ ⟨th, ln, lg, sa, wh, up, lo, rfl, hML⟩ (xs (nI (4 * i) + 1).toNatClampNeg), fun r hc' hP _ => ?_⟩
  obtain ⟨rfl, th', ln', lg', sa', wh', up', lo', rfl, hML'⟩ := hP
  exact And.intro (fun _ => go _ ⟨bs, nb, N, mk, w, n, W, rent, mo, L, S, nkH ah en ow fr bd se fw rc, ntH ma sz wk ax ay ak ob, rmH M tr oo be pr mm ct re gr sx, lnH Nn1 Ah1 En1 Ho1 Sv1 cl1 st1 un1 sh1 sd1 sf1, mwA th' nk nt rm ln' lg' b1 b2 b3 b4 b5 qma wa ta ha b6 b7 p1 sa' wh' up' lo', rfl, hN, hT, hR, hL1, ⟨th', nk, nt, rm, ln', lg', b1, b2, b3, b4, b5, qma, wa, ta, ha, b6, b7, p1, sa', wh', up', lo', rfl, hMB, hMT, hMw, hMR, hML'⟩, hw⟩) (fun z => absurd rfl z)
set_option maxRecDepth 20000 in
theorem lc_place {sL : Nat} {xs : Nat → Int32} {l : Launch} {K : Nat → xL → List xV → xH → Prop} (hK : YR sL xs l mtL kLaw rt1 K) {i : Nat} (h1 : vp_in (nI (4 * i) + 1) sL) (h2 : vp_in (nI (4 * i) + 2) sL) (h3 : vp_in (nI (4 * i) + 3) sL) {hp : xH} (hX : LX hp) (go : ∀ hp', LX hp' → K 912 (lvL i) [] hp') : K 811 (lvL i) [] hp := by
  obtain ⟨bs, nb, N, mk, w, n, W, rent, mo, L, S, _, _, _, _, _, rfl, hN, hT, hR, hL, hM, hw⟩ := hX
  obtain ⟨ah, en, ow, fr, bd, se, fw, rc, rfl, -⟩ := id hN
  obtain ⟨ma, sz, wk, ax, ay, ak, ob, rfl, -⟩ := id hT
  obtain ⟨M, tr, oo, be, pr, mm, ct, re, gr, sx, rfl, -⟩ := id hR
  obtain ⟨Nn, Ah, En, Ho, Sv, cl, st, un, sh, sd, sf, rfl, -⟩ := id hL
  obtain ⟨th, nk, nt, rm, ln, lg, b1, b2, b3, b4, b5, qma, wa, ta, ha, b6, b7, p1, sa, wh, up, lo, rfl, hMB, hMT, hMw, hMR, hML⟩ := hM
  refine hK [(912, [0, 1, 2, 3])] 70 811 _ _ _ ?_
  refine And.intro h1 ?_
  refine And.intro h2 ?_
  refine ⟨[0, 15, 16, 17, 18, 19, 20], _, s_place l n L S _ hL (xs (nI (4 * i) + 1).toNatClampNeg) (xs (nI (4 * i) + 2).toNatClampNeg), fun r hc' hP _ => ?_⟩
  obtain ⟨rfl, _, hL1, rfl⟩ := hP
  obtain ⟨Nn1, Ah1, En1, Ho1, Sv1, cl1, st1, un1, sh1, sd1, sf1, rfl, -⟩ := id hL1
  refine And.intro h1 ?_
  refine And.intro h2 ?_
  refine ⟨[40, 53, 54, 55, 56], _, m_place l n L S nk nt rm _ ⟨th, ln, lg, sa, wh, up, lo, rfl, hML⟩ (xs (nI (4 * i) + 1).toNatClampNeg) (xs (nI (4 * i) + 2).toNatClampNeg), fun r hc' hP _ => ?_⟩
  obtain ⟨rfl, th', ln', lg', sa', wh', up', lo', rfl, hML'⟩ := hP
  exact And.intro (fun _ => go _ ⟨bs, nb, N, mk, w, n, W, rent, mo, L, S, nkH ah en ow fr bd se fw rc, ntH ma sz wk ax ay ak ob, rmH M tr oo be pr mm ct re gr sx, lnH Nn1 Ah1 En1 Ho1 Sv1 cl1 st1 un1 sh1 sd1 sf1, mwA th' nk nt rm ln' lg' b1 b2 b3 b4 b5 qma wa ta ha b6 b7 p1 sa' wh' up' lo', rfl, hN, hT, hR, hL1, ⟨th', nk, nt, rm, ln', lg', b1, b2, b3, b4, b5, qma, wa, ta, ha, b6, b7, p1, sa', wh', up', lo', rfl, hMB, hMT, hMw, hMR, hML'⟩, hw⟩) (fun z => absurd rfl z)
set_option maxRecDepth 20000 in
theorem lc_worth {sL : Nat} {xs : Nat → Int32} {l : Launch} {K : Nat → xL → List xV → xH → Prop} (hK : YR sL xs l mtL kLaw rt1 K) {i : Nat} (h1 : vp_in (nI (4 * i) + 1) sL) (h2 : vp_in (nI (4 * i) + 2) sL) (h3 : vp_in (nI (4 * i) + 3) sL) {hp : xH} (hX : LX hp) (go : ∀ hp', LX hp' → K 912 (lvL i) [] hp') : K 845 (lvL i) [] hp := by
  obtain ⟨bs, nb, N, mk, w, n, W, rent, mo, L, S, _, _, _, _, _, rfl, hN, hT, hR, hL, hM, hw⟩ := hX
  obtain ⟨ah, en, ow, fr, bd, se, fw, rc, rfl, -⟩ := id hN
  obtain ⟨ma, sz, wk, ax, ay, ak, ob, rfl, -⟩ := id hT
  obtain ⟨M, tr, oo, be, pr, mm, ct, re, gr, sx, rfl, -⟩ := id hR
  obtain ⟨Nn, Ah, En, Ho, Sv, cl, st, un, sh, sd, sf, rfl, -⟩ := id hL
  obtain ⟨th, nk, nt, rm, ln, lg, b1, b2, b3, b4, b5, qma, wa, ta, ha, b6, b7, p1, sa, wh, up, lo, rfl, hMB, hMT, hMw, hMR, hML⟩ := hM
  refine hK [(912, [0, 1, 2, 3])] 70 845 _ _ _ ?_
  refine And.intro h1 ?_
  refine And.intro h2 ?_
  refine And.intro h3 ?_
  refine ⟨[0, 15, 16, 17, 18, 19, 20], _, s_worth l n L S _ hL (xs (nI (4 * i) + 1).toNatClampNeg) (xs (nI (4 * i) + 2).toNatClampNeg) (xs (nI (4 * i) + 3).toNatClampNeg), fun r hc' hP _ => ?_⟩
  obtain ⟨rfl, _, hL1, rfl⟩ := hP
  obtain ⟨Nn1, Ah1, En1, Ho1, Sv1, cl1, st1, un1, sh1, sd1, sf1, rfl, -⟩ := id hL1
  refine And.intro h1 ?_
  refine And.intro h2 ?_
  refine And.intro h3 ?_
  refine ⟨[40, 53, 54, 55, 56], _, m_worth l n L S nk nt rm _ ⟨th, ln, lg, sa, wh, up, lo, rfl, hML⟩ (xs (nI (4 * i) + 1).toNatClampNeg) (xs (nI (4 * i) + 2).toNatClampNeg) (xs (nI (4 * i) + 3).toNatClampNeg), fun r hc' hP _ => ?_⟩
  obtain ⟨rfl, th', ln', lg', sa', wh', up', lo', rfl, hML'⟩ := hP
  exact And.intro (fun _ => go _ ⟨bs, nb, N, mk, w, n, W, rent, mo, L, S, nkH ah en ow fr bd se fw rc, ntH ma sz wk ax ay ak ob, rmH M tr oo be pr mm ct re gr sx, lnH Nn1 Ah1 En1 Ho1 Sv1 cl1 st1 un1 sh1 sd1 sf1, mwA th' nk nt rm ln' lg' b1 b2 b3 b4 b5 qma wa ta ha b6 b7 p1 sa' wh' up' lo', rfl, hN, hT, hR, hL1, ⟨th', nk, nt, rm, ln', lg', b1, b2, b3, b4, b5, qma, wa, ta, ha, b6, b7, p1, sa', wh', up', lo', rfl, hMB, hMT, hMw, hMR, hML'⟩, hw⟩) (fun z => absurd rfl z)
set_option maxRecDepth 20000 in
theorem lc_envies {sL : Nat} {xs : Nat → Int32} {l : Launch} {K : Nat → xL → List xV → xH → Prop} (hK : YR sL xs l mtL kLaw rt1 K) {i : Nat} (h1 : vp_in (nI (4 * i) + 1) sL) (h2 : vp_in (nI (4 * i) + 2) sL) (h3 : vp_in (nI (4 * i) + 3) sL) {hp : xH} (hX : LX hp) (go : ∀ hp', LX hp' → K 912 (lvL i) [] hp') : K 889 (lvL i) [] hp := by
  obtain ⟨bs, nb, N, mk, w, n, W, rent, mo, L, S, _, _, _, _, _, rfl, hN, hT, hR, hL, hM, hw⟩ := hX
  obtain ⟨ah, en, ow, fr, bd, se, fw, rc, rfl, -⟩ := id hN
  obtain ⟨ma, sz, wk, ax, ay, ak, ob, rfl, -⟩ := id hT
  obtain ⟨M, tr, oo, be, pr, mm, ct, re, gr, sx, rfl, -⟩ := id hR
  obtain ⟨Nn, Ah, En, Ho, Sv, cl, st, un, sh, sd, sf, rfl, -⟩ := id hL
  obtain ⟨th, nk, nt, rm, ln, lg, b1, b2, b3, b4, b5, qma, wa, ta, ha, b6, b7, p1, sa, wh, up, lo, rfl, hMB, hMT, hMw, hMR, hML⟩ := hM
  refine hK [(912, [0, 1, 2, 3])] 70 889 _ _ _ ?_
  refine And.intro h1 ?_
  refine ⟨[0, 15, 16, 17, 18, 19, 20], _, s_envies l n L S _ hL (xs (nI (4 * i) + 1).toNatClampNeg), fun r hc' hP _ => ?_⟩
  obtain ⟨rfl, _, hL1, rfl⟩ := hP
  obtain ⟨Nn1, Ah1, En1, Ho1, Sv1, cl1, st1, un1, sh1, sd1, sf1, rfl, -⟩ := id hL1
  refine And.intro h1 ?_
  refine ⟨[40, 53, 54, 55, 56], _, m_envies l n L S nk nt rm _ ⟨th, ln, lg, sa, wh, up, lo, rfl, hML⟩ (xs (nI (4 * i) + 1).toNatClampNeg), fun r hc' hP _ => ?_⟩
  obtain ⟨rfl, th', ln', lg', sa', wh', up', lo', rfl, hML'⟩ := hP
  exact And.intro (fun _ => go _ ⟨bs, nb, N, mk, w, n, W, rent, mo, L, S, nkH ah en ow fr bd se fw rc, ntH ma sz wk ax ay ak ob, rmH M tr oo be pr mm ct re gr sx, lnH Nn1 Ah1 En1 Ho1 Sv1 cl1 st1 un1 sh1 sd1 sf1, mwA th' nk nt rm ln' lg' b1 b2 b3 b4 b5 qma wa ta ha b6 b7 p1 sa' wh' up' lo', rfl, hN, hT, hR, hL1, ⟨th', nk, nt, rm, ln', lg', b1, b2, b3, b4, b5, qma, wa, ta, ha, b6, b7, p1, sa', wh', up', lo', rfl, hMB, hMT, hMw, hMR, hML'⟩, hw⟩) (fun z => absurd rfl z)
