/-! ===== the law's loop: a world of both, and its cases ===== -/
def LW (bs : Nat → Nat) (nb N : Nat) (mk : Nat → Nat → Nat) (w : Option wEnd) (n : Nat) (W : Nat → Nat → Nat) (rent : Nat) (mo : Nat → Int) (L : Nat) (S : Nat → Nat → Nat) (hp : xH) : Prop := ∃ h1 h2 h3 h4 hM : xH, hp = sbO :: (h1 ++ (h2 ++ (h3 ++ (h4 ++ hM)))) ∧ NH bs nb h1 ∧ TH N mk w h2 ∧ RH n W rent mo h3 ∧ LH n L S h4 ∧ MW bs nb N mk w n W rent mo L S hM ∧ wOk N w
def LX (hp : xH) : Prop := ∃ (bs : Nat → Nat) (nb N : Nat) (mk : Nat → Nat → Nat) (w : Option wEnd) (n : Nat) (W : Nat → Nat → Nat) (rent : Nat) (mo : Nat → Int) (L : Nat) (S : Nat → Nat → Nat), LW bs nb N mk w n W rent mo L S hp
abbrev lvL (i : Nat) : xL := [(0, .inr (99, 0)), (1, .inr (0, 0)), (2, .inr (40, 0)), (3, vI (nI (4 * i)))]
def rt1 : Option xV → xH → Prop := fun r _ => r = some (vI 1)
theorem wNet_ok {N : Nat} {w : Option wEnd} (h : wOk N w) (k : Int32) : wOk (nNet N k) (wNet w k) := by
  cases q : okNet k with
  | true =>
    have e : wNet w k = none := by unfold wNet; rw [q]; rfl
    rw [e]
    exact trivial
  | false =>
    have e : wNet w k = w := by unfold wNet; rw [q]; rfl
    have e1 : nNet N k = N := by unfold nNet; rw [q]; rfl
    rw [e, e1]
    exact h
theorem wMark_ok {N : Nat} {w : Option wEnd} (h : wOk N w) (x y k : Int32) : wOk N (wMark N w x y k) := by
  cases q : okMark N x y k with
  | true =>
    have e : wMark N w x y k = none := by unfold wMark; rw [q]; rfl
    rw [e]
    exact trivial
  | false =>
    have e : wMark N w x y k = w := by unfold wMark; rw [q]; rfl
    rw [e]
    exact h
set_option maxRecDepth 20000 in
theorem lc_bead {sL : Nat} {xs : Nat → Int32} {l : Launch} {K : Nat → xL → List xV → xH → Prop} (hK : YR sL xs l mtL kLaw rt1 K) {i : Nat} (h1 : vp_in (nI (4 * i) + 1) sL) (h2 : vp_in (nI (4 * i) + 2) sL) (h3 : vp_in (nI (4 * i) + 3) sL) {hp : xH} (hX : LX hp) (go : ∀ hp', LX hp' → K 912 (lvL i) [] hp') : K 168 (lvL i) [] hp := by
  obtain ⟨bs, nb, N, mk, w, n, W, rent, mo, L, S, _, _, _, _, _, rfl, hN, hT, hR, hL, hM, hw⟩ := hX
  obtain ⟨ah, en, ow, fr, bd, se, fw, rc, rfl, -⟩ := id hN
  obtain ⟨ma, sz, wk, ax, ay, ak, ob, rfl, -⟩ := id hT
  obtain ⟨M, tr, oo, be, pr, mm, ct, re, gr, sx, rfl, -⟩ := id hR
  obtain ⟨Nn, Ah, En, Ho, Sv, cl, st, un, sh, sd, sf, rfl, -⟩ := id hL
  obtain ⟨th, nk, nt, rm, ln, lg, b1, b2, b3, b4, b5, qma, wa, ta, ha, b6, b7, p1, sa, wh, up, lo, rfl, hMB, hMT, hMw, hMR, hML⟩ := hM
  refine hK [(912, [0, 1, 2, 3])] 70 168 _ _ _ ?_
  refine And.intro h1 ?_
  refine ⟨[0, 1, 2, 3, 4, 5], _, s_bead l bs nb _ hN (xs (nI (4 * i) + 1).toNatClampNeg), fun r hc' hP _ => ?_⟩
  obtain ⟨rfl, _, hN1, rfl⟩ := hP
  obtain ⟨ah1, en1, ow1, fr1, bd1, se1, fw1, rc1, rfl, -⟩ := id hN1
  refine And.intro h1 ?_
  refine ⟨[40, 41, 42, 43, 44, 45], _, m_bead l bs nb nt rm ln lg _ ⟨th, nk, b1, b2, b3, b4, b5, rfl, hMB⟩ (xs (nI (4 * i) + 1).toNatClampNeg), fun r hc' hP _ => ?_⟩
  obtain ⟨rfl, th', nk', b1', b2', b3', b4', b5', rfl, hMB'⟩ := hP
  exact And.intro (fun _ => go _ ⟨(sBead bs nb (xs (nI (4 * i) + 1).toNatClampNeg)), (mBead nb (xs (nI (4 * i) + 1).toNatClampNeg)), N, mk, w, n, W, rent, mo, L, S, nkH ah1 en1 ow1 fr1 bd1 se1 fw1 rc1, ntH ma sz wk ax ay ak ob, rmH M tr oo be pr mm ct re gr sx, lnH Nn Ah En Ho Sv cl st un sh sd sf, mwA th' nk' nt rm ln lg b1' b2' b3' b4' b5' qma wa ta ha b6 b7 p1 sa wh up lo, rfl, hN1, hT, hR, hL, ⟨th', nk', nt, rm, ln, lg, b1', b2', b3', b4', b5', qma, wa, ta, ha, b6, b7, p1, sa, wh, up, lo, rfl, hMB', hMT, hMw, hMR, hML⟩, hw⟩) (fun z => absurd rfl z)
set_option maxRecDepth 20000 in
theorem lc_beads {sL : Nat} {xs : Nat → Int32} {l : Launch} {K : Nat → xL → List xV → xH → Prop} (hK : YR sL xs l mtL kLaw rt1 K) {i : Nat} (h1 : vp_in (nI (4 * i) + 1) sL) (h2 : vp_in (nI (4 * i) + 2) sL) (h3 : vp_in (nI (4 * i) + 3) sL) {hp : xH} (hX : LX hp) (go : ∀ hp', LX hp' → K 912 (lvL i) [] hp') : K 191 (lvL i) [] hp := by
  obtain ⟨bs, nb, N, mk, w, n, W, rent, mo, L, S, _, _, _, _, _, rfl, hN, hT, hR, hL, hM, hw⟩ := hX
  obtain ⟨ah, en, ow, fr, bd, se, fw, rc, rfl, -⟩ := id hN
  obtain ⟨ma, sz, wk, ax, ay, ak, ob, rfl, -⟩ := id hT
  obtain ⟨M, tr, oo, be, pr, mm, ct, re, gr, sx, rfl, -⟩ := id hR
  obtain ⟨Nn, Ah, En, Ho, Sv, cl, st, un, sh, sd, sf, rfl, -⟩ := id hL
  obtain ⟨th, nk, nt, rm, ln, lg, b1, b2, b3, b4, b5, qma, wa, ta, ha, b6, b7, p1, sa, wh, up, lo, rfl, hMB, hMT, hMw, hMR, hML⟩ := hM
  refine hK [(912, [0, 1, 2, 3])] 70 191 _ _ _ ?_
  refine And.intro h1 ?_
  refine ⟨[0, 1, 2, 3, 4, 5], _, s_beads l bs nb _ hN (xs (nI (4 * i) + 1).toNatClampNeg), fun r hc' hP _ => ?_⟩
  obtain ⟨rfl, _, hN1, rfl⟩ := hP
  obtain ⟨ah1, en1, ow1, fr1, bd1, se1, fw1, rc1, rfl, -⟩ := id hN1
  refine And.intro h1 ?_
  refine ⟨[40, 41, 42, 43, 44, 45], _, m_beads l bs nb nt rm ln lg _ ⟨th, nk, b1, b2, b3, b4, b5, rfl, hMB⟩ (xs (nI (4 * i) + 1).toNatClampNeg), fun r hc' hP _ => ?_⟩
  obtain ⟨rfl, th', nk', b1', b2', b3', b4', b5', rfl, hMB'⟩ := hP
  exact And.intro (fun _ => go _ ⟨bs, (mBeads nb (xs (nI (4 * i) + 1).toNatClampNeg)), N, mk, w, n, W, rent, mo, L, S, nkH ah1 en1 ow1 fr1 bd1 se1 fw1 rc1, ntH ma sz wk ax ay ak ob, rmH M tr oo be pr mm ct re gr sx, lnH Nn Ah En Ho Sv cl st un sh sd sf, mwA th' nk' nt rm ln lg b1' b2' b3' b4' b5' qma wa ta ha b6 b7 p1 sa wh up lo, rfl, hN1, hT, hR, hL, ⟨th', nk', nt, rm, ln, lg, b1', b2', b3', b4', b5', qma, wa, ta, ha, b6, b7, p1, sa, wh, up, lo, rfl, hMB', hMT, hMw, hMR, hML⟩, hw⟩) (fun z => absurd rfl z)
set_option maxRecDepth 20000 in
theorem lc_count {sL : Nat} {xs : Nat → Int32} {l : Launch} {K : Nat → xL → List xV → xH → Prop} (hK : YR sL xs l mtL kLaw rt1 K) {i : Nat} (h1 : vp_in (nI (4 * i) + 1) sL) (h2 : vp_in (nI (4 * i) + 2) sL) (h3 : vp_in (nI (4 * i) + 3) sL) {hp : xH} (hX : LX hp) (go : ∀ hp', LX hp' → K 912 (lvL i) [] hp') : K 214 (lvL i) [] hp := by
  obtain ⟨bs, nb, N, mk, w, n, W, rent, mo, L, S, _, _, _, _, _, rfl, hN, hT, hR, hL, hM, hw⟩ := hX
  obtain ⟨ah, en, ow, fr, bd, se, fw, rc, rfl, -⟩ := id hN
  obtain ⟨ma, sz, wk, ax, ay, ak, ob, rfl, -⟩ := id hT
  obtain ⟨M, tr, oo, be, pr, mm, ct, re, gr, sx, rfl, -⟩ := id hR
  obtain ⟨Nn, Ah, En, Ho, Sv, cl, st, un, sh, sd, sf, rfl, -⟩ := id hL
  obtain ⟨th, nk, nt, rm, ln, lg, b1, b2, b3, b4, b5, qma, wa, ta, ha, b6, b7, p1, sa, wh, up, lo, rfl, hMB, hMT, hMw, hMR, hML⟩ := hM
  refine hK [(912, [0, 1, 2, 3])] 70 214 _ _ _ ?_
  refine And.intro h1 ?_
  refine ⟨[0, 1, 2, 3, 4, 5], _, s_count l bs nb _ hN (xs (nI (4 * i) + 1).toNatClampNeg), fun r hc' hP _ => ?_⟩
  obtain ⟨rfl, _, hN1, rfl⟩ := hP
  obtain ⟨ah1, en1, ow1, fr1, bd1, se1, fw1, rc1, rfl, -⟩ := id hN1
  refine And.intro h1 ?_
  refine ⟨[40, 41, 42, 43, 44, 45], _, m_count l bs nb nt rm ln lg _ ⟨th, nk, b1, b2, b3, b4, b5, rfl, hMB⟩ (xs (nI (4 * i) + 1).toNatClampNeg), fun r hc' hP _ => ?_⟩
  obtain ⟨rfl, th', nk', b1', b2', b3', b4', b5', rfl, hMB'⟩ := hP
  exact And.intro (fun _ => go _ ⟨bs, nb, N, mk, w, n, W, rent, mo, L, S, nkH ah1 en1 ow1 fr1 bd1 se1 fw1 rc1, ntH ma sz wk ax ay ak ob, rmH M tr oo be pr mm ct re gr sx, lnH Nn Ah En Ho Sv cl st un sh sd sf, mwA th' nk' nt rm ln lg b1' b2' b3' b4' b5' qma wa ta ha b6 b7 p1 sa wh up lo, rfl, hN1, hT, hR, hL, ⟨th', nk', nt, rm, ln, lg, b1', b2', b3', b4', b5', qma, wa, ta, ha, b6, b7, p1, sa, wh, up, lo, rfl, hMB', hMT, hMw, hMR, hML⟩, hw⟩) (fun z => absurd rfl z)
set_option maxRecDepth 20000 in
theorem lc_least {sL : Nat} {xs : Nat → Int32} {l : Launch} {K : Nat → xL → List xV → xH → Prop} (hK : YR sL xs l mtL kLaw rt1 K) {i : Nat} (h1 : vp_in (nI (4 * i) + 1) sL) (h2 : vp_in (nI (4 * i) + 2) sL) (h3 : vp_in (nI (4 * i) + 3) sL) {hp : xH} (hX : LX hp) (go : ∀ hp', LX hp' → K 912 (lvL i) [] hp') : K 237 (lvL i) [] hp := by
  obtain ⟨bs, nb, N, mk, w, n, W, rent, mo, L, S, _, _, _, _, _, rfl, hN, hT, hR, hL, hM, hw⟩ := hX
  obtain ⟨ah, en, ow, fr, bd, se, fw, rc, rfl, -⟩ := id hN
  obtain ⟨ma, sz, wk, ax, ay, ak, ob, rfl, -⟩ := id hT
  obtain ⟨M, tr, oo, be, pr, mm, ct, re, gr, sx, rfl, -⟩ := id hR
  obtain ⟨Nn, Ah, En, Ho, Sv, cl, st, un, sh, sd, sf, rfl, -⟩ := id hL
  obtain ⟨th, nk, nt, rm, ln, lg, b1, b2, b3, b4, b5, qma, wa, ta, ha, b6, b7, p1, sa, wh, up, lo, rfl, hMB, hMT, hMw, hMR, hML⟩ := hM
  refine hK [(912, [0, 1, 2, 3])] 70 237 _ _ _ ?_
  refine ⟨[0, 1, 2, 3, 4, 5], _, s_least l bs nb _ hN , fun r hc' hP _ => ?_⟩
  obtain ⟨rfl, _, hN1, rfl⟩ := hP
  obtain ⟨ah1, en1, ow1, fr1, bd1, se1, fw1, rc1, rfl, -⟩ := id hN1
  refine ⟨[40, 41, 42, 43, 44, 45], _, m_least l bs nb nt rm ln lg _ ⟨th, nk, b1, b2, b3, b4, b5, rfl, hMB⟩ , fun r hc' hP _ => ?_⟩
  obtain ⟨rfl, th', nk', b1', b2', b3', b4', b5', rfl, hMB'⟩ := hP
  exact And.intro (fun _ => go _ ⟨bs, nb, N, mk, w, n, W, rent, mo, L, S, nkH ah1 en1 ow1 fr1 bd1 se1 fw1 rc1, ntH ma sz wk ax ay ak ob, rmH M tr oo be pr mm ct re gr sx, lnH Nn Ah En Ho Sv cl st un sh sd sf, mwA th' nk' nt rm ln lg b1' b2' b3' b4' b5' qma wa ta ha b6 b7 p1 sa wh up lo, rfl, hN1, hT, hR, hL, ⟨th', nk', nt, rm, ln, lg, b1', b2', b3', b4', b5', qma, wa, ta, ha, b6, b7, p1, sa, wh, up, lo, rfl, hMB', hMT, hMw, hMR, hML⟩, hw⟩) (fun z => absurd rfl z)
set_option maxRecDepth 20000 in
theorem lc_cut {sL : Nat} {xs : Nat → Int32} {l : Launch} {K : Nat → xL → List xV → xH → Prop} (hK : YR sL xs l mtL kLaw rt1 K) {i : Nat} (h1 : vp_in (nI (4 * i) + 1) sL) (h2 : vp_in (nI (4 * i) + 2) sL) (h3 : vp_in (nI (4 * i) + 3) sL) {hp : xH} (hX : LX hp) (go : ∀ hp', LX hp' → K 912 (lvL i) [] hp') : K 250 (lvL i) [] hp := by
  obtain ⟨bs, nb, N, mk, w, n, W, rent, mo, L, S, _, _, _, _, _, rfl, hN, hT, hR, hL, hM, hw⟩ := hX
  obtain ⟨ah, en, ow, fr, bd, se, fw, rc, rfl, -⟩ := id hN
  obtain ⟨ma, sz, wk, ax, ay, ak, ob, rfl, -⟩ := id hT
  obtain ⟨M, tr, oo, be, pr, mm, ct, re, gr, sx, rfl, -⟩ := id hR
  obtain ⟨Nn, Ah, En, Ho, Sv, cl, st, un, sh, sd, sf, rfl, -⟩ := id hL
  obtain ⟨th, nk, nt, rm, ln, lg, b1, b2, b3, b4, b5, qma, wa, ta, ha, b6, b7, p1, sa, wh, up, lo, rfl, hMB, hMT, hMw, hMR, hML⟩ := hM
  refine hK [(912, [0, 1, 2, 3])] 70 250 _ _ _ ?_
  refine And.intro h1 ?_
  refine ⟨[0, 1, 2, 3, 4, 5], _, s_cut l bs nb _ hN (xs (nI (4 * i) + 1).toNatClampNeg), fun r hc' hP _ => ?_⟩
  obtain ⟨rfl, _, hN1, rfl⟩ := hP
  obtain ⟨ah1, en1, ow1, fr1, bd1, se1, fw1, rc1, rfl, -⟩ := id hN1
  refine And.intro h1 ?_
  refine ⟨[40, 41, 42, 43, 44, 45], _, m_cut l bs nb nt rm ln lg _ ⟨th, nk, b1, b2, b3, b4, b5, rfl, hMB⟩ (xs (nI (4 * i) + 1).toNatClampNeg), fun r hc' hP _ => ?_⟩
  obtain ⟨rfl, th', nk', b1', b2', b3', b4', b5', rfl, hMB'⟩ := hP
  exact And.intro (fun _ => go _ ⟨bs, nb, N, mk, w, n, W, rent, mo, L, S, nkH ah1 en1 ow1 fr1 bd1 se1 fw1 rc1, ntH ma sz wk ax ay ak ob, rmH M tr oo be pr mm ct re gr sx, lnH Nn Ah En Ho Sv cl st un sh sd sf, mwA th' nk' nt rm ln lg b1' b2' b3' b4' b5' qma wa ta ha b6 b7 p1 sa wh up lo, rfl, hN1, hT, hR, hL, ⟨th', nk', nt, rm, ln, lg, b1', b2', b3', b4', b5', qma, wa, ta, ha, b6, b7, p1, sa, wh, up, lo, rfl, hMB', hMT, hMw, hMR, hML⟩, hw⟩) (fun z => absurd rfl z)
set_option maxRecDepth 20000 in
theorem lc_rows {sL : Nat} {xs : Nat → Int32} {l : Launch} {K : Nat → xL → List xV → xH → Prop} (hK : YR sL xs l mtL kLaw rt1 K) {i : Nat} (h1 : vp_in (nI (4 * i) + 1) sL) (h2 : vp_in (nI (4 * i) + 2) sL) (h3 : vp_in (nI (4 * i) + 3) sL) {hp : xH} (hX : LX hp) (go : ∀ hp', LX hp' → K 912 (lvL i) [] hp') : K 273 (lvL i) [] hp := by
  obtain ⟨bs, nb, N, mk, w, n, W, rent, mo, L, S, _, _, _, _, _, rfl, hN, hT, hR, hL, hM, hw⟩ := hX
  obtain ⟨ah, en, ow, fr, bd, se, fw, rc, rfl, -⟩ := id hN
  obtain ⟨ma, sz, wk, ax, ay, ak, ob, rfl, -⟩ := id hT
  obtain ⟨M, tr, oo, be, pr, mm, ct, re, gr, sx, rfl, -⟩ := id hR
  obtain ⟨Nn, Ah, En, Ho, Sv, cl, st, un, sh, sd, sf, rfl, -⟩ := id hL
  obtain ⟨th, nk, nt, rm, ln, lg, b1, b2, b3, b4, b5, qma, wa, ta, ha, b6, b7, p1, sa, wh, up, lo, rfl, hMB, hMT, hMw, hMR, hML⟩ := hM
  refine hK [(912, [0, 1, 2, 3])] 70 273 _ _ _ ?_
  refine ⟨[0, 1, 2, 3, 4, 5], _, s_rows l bs nb _ hN , fun r hc' hP _ => ?_⟩
  obtain ⟨rfl, _, hN1, rfl⟩ := hP
  obtain ⟨ah1, en1, ow1, fr1, bd1, se1, fw1, rc1, rfl, -⟩ := id hN1
  refine ⟨[40, 41, 42, 43, 44, 45], _, m_rows l bs nb nt rm ln lg _ ⟨th, nk, b1, b2, b3, b4, b5, rfl, hMB⟩ , fun r hc' hP _ => ?_⟩
  obtain ⟨rfl, th', nk', b1', b2', b3', b4', b5', rfl, hMB'⟩ := hP
  exact And.intro (fun _ => go _ ⟨bs, nb, N, mk, w, n, W, rent, mo, L, S, nkH ah1 en1 ow1 fr1 bd1 se1 fw1 rc1, ntH ma sz wk ax ay ak ob, rmH M tr oo be pr mm ct re gr sx, lnH Nn Ah En Ho Sv cl st un sh sd sf, mwA th' nk' nt rm ln lg b1' b2' b3' b4' b5' qma wa ta ha b6 b7 p1 sa wh up lo, rfl, hN1, hT, hR, hL, ⟨th', nk', nt, rm, ln, lg, b1', b2', b3', b4', b5', qma, wa, ta, ha, b6, b7, p1, sa, wh, up, lo, rfl, hMB', hMT, hMw, hMR, hML⟩, hw⟩) (fun z => absurd rfl z)
set_option maxRecDepth 20000 in
theorem lc_halves {sL : Nat} {xs : Nat → Int32} {l : Launch} {K : Nat → xL → List xV → xH → Prop} (hK : YR sL xs l mtL kLaw rt1 K) {i : Nat} (h1 : vp_in (nI (4 * i) + 1) sL) (h2 : vp_in (nI (4 * i) + 2) sL) (h3 : vp_in (nI (4 * i) + 3) sL) {hp : xH} (hX : LX hp) (go : ∀ hp', LX hp' → K 912 (lvL i) [] hp') : K 286 (lvL i) [] hp := by
  obtain ⟨bs, nb, N, mk, w, n, W, rent, mo, L, S, _, _, _, _, _, rfl, hN, hT, hR, hL, hM, hw⟩ := hX
  obtain ⟨ah, en, ow, fr, bd, se, fw, rc, rfl, -⟩ := id hN
  obtain ⟨ma, sz, wk, ax, ay, ak, ob, rfl, -⟩ := id hT
  obtain ⟨M, tr, oo, be, pr, mm, ct, re, gr, sx, rfl, -⟩ := id hR
  obtain ⟨Nn, Ah, En, Ho, Sv, cl, st, un, sh, sd, sf, rfl, -⟩ := id hL
  obtain ⟨th, nk, nt, rm, ln, lg, b1, b2, b3, b4, b5, qma, wa, ta, ha, b6, b7, p1, sa, wh, up, lo, rfl, hMB, hMT, hMw, hMR, hML⟩ := hM
  refine hK [(912, [0, 1, 2, 3])] 70 286 _ _ _ ?_
  refine And.intro h1 ?_
  refine ⟨[0, 1, 2, 3, 4, 5], _, s_halves l bs nb _ hN (xs (nI (4 * i) + 1).toNatClampNeg), fun r hc' hP _ => ?_⟩
  obtain ⟨rfl, _, hN1, rfl⟩ := hP
  obtain ⟨ah1, en1, ow1, fr1, bd1, se1, fw1, rc1, rfl, -⟩ := id hN1
  refine And.intro h1 ?_
  refine ⟨[40, 41, 42, 43, 44, 45], _, m_halves l bs nb nt rm ln lg _ ⟨th, nk, b1, b2, b3, b4, b5, rfl, hMB⟩ (xs (nI (4 * i) + 1).toNatClampNeg), fun r hc' hP _ => ?_⟩
  obtain ⟨rfl, th', nk', b1', b2', b3', b4', b5', rfl, hMB'⟩ := hP
  exact And.intro (fun _ => go _ ⟨bs, nb, N, mk, w, n, W, rent, mo, L, S, nkH ah1 en1 ow1 fr1 bd1 se1 fw1 rc1, ntH ma sz wk ax ay ak ob, rmH M tr oo be pr mm ct re gr sx, lnH Nn Ah En Ho Sv cl st un sh sd sf, mwA th' nk' nt rm ln lg b1' b2' b3' b4' b5' qma wa ta ha b6 b7 p1 sa wh up lo, rfl, hN1, hT, hR, hL, ⟨th', nk', nt, rm, ln, lg, b1', b2', b3', b4', b5', qma, wa, ta, ha, b6, b7, p1, sa, wh, up, lo, rfl, hMB', hMT, hMw, hMR, hML⟩, hw⟩) (fun z => absurd rfl z)
set_option maxRecDepth 20000 in
theorem lc_net {sL : Nat} {xs : Nat → Int32} {l : Launch} {K : Nat → xL → List xV → xH → Prop} (hK : YR sL xs l mtL kLaw rt1 K) {i : Nat} (h1 : vp_in (nI (4 * i) + 1) sL) (h2 : vp_in (nI (4 * i) + 2) sL) (h3 : vp_in (nI (4 * i) + 3) sL) {hp : xH} (hX : LX hp) (go : ∀ hp', LX hp' → K 912 (lvL i) [] hp') : K 309 (lvL i) [] hp := by
  obtain ⟨bs, nb, N, mk, w, n, W, rent, mo, L, S, _, _, _, _, _, rfl, hN, hT, hR, hL, hM, hw⟩ := hX
  obtain ⟨ah, en, ow, fr, bd, se, fw, rc, rfl, -⟩ := id hN
  obtain ⟨ma, sz, wk, ax, ay, ak, ob, rfl, -⟩ := id hT
  obtain ⟨M, tr, oo, be, pr, mm, ct, re, gr, sx, rfl, -⟩ := id hR
  obtain ⟨Nn, Ah, En, Ho, Sv, cl, st, un, sh, sd, sf, rfl, -⟩ := id hL
  obtain ⟨th, nk, nt, rm, ln, lg, b1, b2, b3, b4, b5, qma, wa, ta, ha, b6, b7, p1, sa, wh, up, lo, rfl, hMB, hMT, hMw, hMR, hML⟩ := hM
  refine hK [(912, [0, 1, 2, 3])] 70 309 _ _ _ ?_
  refine And.intro h1 ?_
  refine ⟨[0, 6, 7], _, s_net l N mk w _ hT (xs (nI (4 * i) + 1).toNatClampNeg), fun r hc' hP _ => ?_⟩
  obtain ⟨rfl, _, hT1, rfl⟩ := hP
  obtain ⟨ma1, sz1, wk1, ax1, ay1, ak1, ob1, rfl, -⟩ := id hT1
  refine And.intro h1 ?_
  refine ⟨[40, 46], _, m_net l N mk w nk rm ln lg _ ⟨th, nt, qma, rfl, hMT, hMw⟩ (xs (nI (4 * i) + 1).toNatClampNeg), fun r hc' hP _ => ?_⟩
  obtain ⟨rfl, th', nt', qma', rfl, hMT', hMw'⟩ := hP
  exact And.intro (fun _ => go _ ⟨bs, nb, (nNet N (xs (nI (4 * i) + 1).toNatClampNeg)), (sNet mk (xs (nI (4 * i) + 1).toNatClampNeg)), (wNet w (xs (nI (4 * i) + 1).toNatClampNeg)), n, W, rent, mo, L, S, nkH ah en ow fr bd se fw rc, ntH ma1 sz1 wk1 ax1 ay1 ak1 ob1, rmH M tr oo be pr mm ct re gr sx, lnH Nn Ah En Ho Sv cl st un sh sd sf, mwA th' nk nt' rm ln lg b1 b2 b3 b4 b5 qma' wa ta ha b6 b7 p1 sa wh up lo, rfl, hN, hT1, hR, hL, ⟨th', nk, nt', rm, ln, lg, b1, b2, b3, b4, b5, qma', wa, ta, ha, b6, b7, p1, sa, wh, up, lo, rfl, hMB, hMT', hMw', hMR, hML⟩, (wNet_ok hw (xs (nI (4 * i) + 1).toNatClampNeg))⟩) (fun z => absurd rfl z)
set_option maxRecDepth 20000 in
theorem lc_mark {sL : Nat} {xs : Nat → Int32} {l : Launch} {K : Nat → xL → List xV → xH → Prop} (hK : YR sL xs l mtL kLaw rt1 K) {i : Nat} (h1 : vp_in (nI (4 * i) + 1) sL) (h2 : vp_in (nI (4 * i) + 2) sL) (h3 : vp_in (nI (4 * i) + 3) sL) {hp : xH} (hX : LX hp) (go : ∀ hp', LX hp' → K 912 (lvL i) [] hp') : K 332 (lvL i) [] hp := by
  obtain ⟨bs, nb, N, mk, w, n, W, rent, mo, L, S, _, _, _, _, _, rfl, hN, hT, hR, hL, hM, hw⟩ := hX
  obtain ⟨ah, en, ow, fr, bd, se, fw, rc, rfl, -⟩ := id hN
  obtain ⟨ma, sz, wk, ax, ay, ak, ob, rfl, -⟩ := id hT
  obtain ⟨M, tr, oo, be, pr, mm, ct, re, gr, sx, rfl, -⟩ := id hR
  obtain ⟨Nn, Ah, En, Ho, Sv, cl, st, un, sh, sd, sf, rfl, -⟩ := id hL
  obtain ⟨th, nk, nt, rm, ln, lg, b1, b2, b3, b4, b5, qma, wa, ta, ha, b6, b7, p1, sa, wh, up, lo, rfl, hMB, hMT, hMw, hMR, hML⟩ := hM
  refine hK [(912, [0, 1, 2, 3])] 70 332 _ _ _ ?_
  refine And.intro h1 ?_
  refine And.intro h2 ?_
  refine And.intro h3 ?_
  refine ⟨[0, 6, 7], _, s_mark l N mk w _ hT (xs (nI (4 * i) + 1).toNatClampNeg) (xs (nI (4 * i) + 2).toNatClampNeg) (xs (nI (4 * i) + 3).toNatClampNeg), fun r hc' hP _ => ?_⟩
  obtain ⟨rfl, _, hT1, rfl⟩ := hP
  obtain ⟨ma1, sz1, wk1, ax1, ay1, ak1, ob1, rfl, -⟩ := id hT1
  refine And.intro h1 ?_
  refine And.intro h2 ?_
  refine And.intro h3 ?_
  refine ⟨[40, 46], _, m_mark l N mk w nk rm ln lg _ ⟨th, nt, qma, rfl, hMT, hMw⟩ (xs (nI (4 * i) + 1).toNatClampNeg) (xs (nI (4 * i) + 2).toNatClampNeg) (xs (nI (4 * i) + 3).toNatClampNeg), fun r hc' hP _ => ?_⟩
  obtain ⟨rfl, th', nt', qma', rfl, hMT', hMw'⟩ := hP
  exact And.intro (fun _ => go _ ⟨bs, nb, N, (sMark N mk (xs (nI (4 * i) + 1).toNatClampNeg) (xs (nI (4 * i) + 2).toNatClampNeg) (xs (nI (4 * i) + 3).toNatClampNeg)), (wMark N w (xs (nI (4 * i) + 1).toNatClampNeg) (xs (nI (4 * i) + 2).toNatClampNeg) (xs (nI (4 * i) + 3).toNatClampNeg)), n, W, rent, mo, L, S, nkH ah en ow fr bd se fw rc, ntH ma1 sz1 wk1 ax1 ay1 ak1 ob1, rmH M tr oo be pr mm ct re gr sx, lnH Nn Ah En Ho Sv cl st un sh sd sf, mwA th' nk nt' rm ln lg b1 b2 b3 b4 b5 qma' wa ta ha b6 b7 p1 sa wh up lo, rfl, hN, hT1, hR, hL, ⟨th', nk, nt', rm, ln, lg, b1, b2, b3, b4, b5, qma', wa, ta, ha, b6, b7, p1, sa, wh, up, lo, rfl, hMB, hMT', hMw', hMR, hML⟩, (wMark_ok hw (xs (nI (4 * i) + 1).toNatClampNeg) (xs (nI (4 * i) + 2).toNatClampNeg) (xs (nI (4 * i) + 3).toNatClampNeg))⟩) (fun z => absurd rfl z)
set_option maxRecDepth 20000 in
theorem lc_marked {sL : Nat} {xs : Nat → Int32} {l : Launch} {K : Nat → xL → List xV → xH → Prop} (hK : YR sL xs l mtL kLaw rt1 K) {i : Nat} (h1 : vp_in (nI (4 * i) + 1) sL) (h2 : vp_in (nI (4 * i) + 2) sL) (h3 : vp_in (nI (4 * i) + 3) sL) {hp : xH} (hX : LX hp) (go : ∀ hp', LX hp' → K 912 (lvL i) [] hp') : K 375 (lvL i) [] hp := by
  obtain ⟨bs, nb, N, mk, w, n, W, rent, mo, L, S, _, _, _, _, _, rfl, hN, hT, hR, hL, hM, hw⟩ := hX
  obtain ⟨ah, en, ow, fr, bd, se, fw, rc, rfl, -⟩ := id hN
  obtain ⟨ma, sz, wk, ax, ay, ak, ob, rfl, -⟩ := id hT
  obtain ⟨M, tr, oo, be, pr, mm, ct, re, gr, sx, rfl, -⟩ := id hR
  obtain ⟨Nn, Ah, En, Ho, Sv, cl, st, un, sh, sd, sf, rfl, -⟩ := id hL
  obtain ⟨th, nk, nt, rm, ln, lg, b1, b2, b3, b4, b5, qma, wa, ta, ha, b6, b7, p1, sa, wh, up, lo, rfl, hMB, hMT, hMw, hMR, hML⟩ := hM
  refine hK [(912, [0, 1, 2, 3])] 70 375 _ _ _ ?_
  refine And.intro h1 ?_
  refine And.intro h2 ?_
  refine ⟨[0, 6, 7], _, s_marked l N mk w _ hT (xs (nI (4 * i) + 1).toNatClampNeg) (xs (nI (4 * i) + 2).toNatClampNeg), fun r hc' hP _ => ?_⟩
  obtain ⟨rfl, _, hT1, rfl⟩ := hP
  obtain ⟨ma1, sz1, wk1, ax1, ay1, ak1, ob1, rfl, -⟩ := id hT1
  refine And.intro h1 ?_
  refine And.intro h2 ?_
  refine ⟨[40, 46], _, m_marked l N mk w nk rm ln lg _ ⟨th, nt, qma, rfl, hMT, hMw⟩ (xs (nI (4 * i) + 1).toNatClampNeg) (xs (nI (4 * i) + 2).toNatClampNeg), fun r hc' hP _ => ?_⟩
  obtain ⟨rfl, th', nt', qma', rfl, hMT', hMw'⟩ := hP
  exact And.intro (fun _ => go _ ⟨bs, nb, N, mk, w, n, W, rent, mo, L, S, nkH ah en ow fr bd se fw rc, ntH ma1 sz1 wk1 ax1 ay1 ak1 ob1, rmH M tr oo be pr mm ct re gr sx, lnH Nn Ah En Ho Sv cl st un sh sd sf, mwA th' nk nt' rm ln lg b1 b2 b3 b4 b5 qma' wa ta ha b6 b7 p1 sa wh up lo, rfl, hN, hT1, hR, hL, ⟨th', nk, nt', rm, ln, lg, b1, b2, b3, b4, b5, qma', wa, ta, ha, b6, b7, p1, sa, wh, up, lo, rfl, hMB, hMT', hMw', hMR, hML⟩, hw⟩) (fun z => absurd rfl z)
