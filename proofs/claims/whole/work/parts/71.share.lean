/-! ===== ShareBench's own methods ===== -/
abbrev sbO : Nat × xC := (0, .inr (4, [.inr (1, 0), .inr (6, 0), .inr (8, 0), .inr (15, 0)]))
theorem s_bead (l : Launch) (bs : Nat → Nat) (n : Nat) (h : xH) (hN : NH bs n h) (k : Int32) : Ev l zX4_bead [.inr (0, 0), vI k] (sbO :: h) (fun r h' => r = some (vI (qBead n k)) ∧ ∃ h1, NH (sBead bs n k) (mBead n k) h1 ∧ h' = sbO :: h1) := by
  obtain ⟨ah, en, ow, fr, bd, se, fw, rc, rfl, -⟩ := id hN
  refine ev_run okX4_bead (by decide +kernel) (Nat.le_of_ble_eq_true rfl) 60 ?_
  refine ⟨[1, 2, 3, 4, 5], _, c_string l bs n _ hN k, fun r hc' hP _ => ?_⟩
  obtain ⟨rfl, hN'⟩ := hP
  obtain ⟨ah, en, ow, fr, bd, se, fw, rc, rfl, -⟩ := id hN'
  exact And.intro ⟨rfl, _, hN', rfl⟩ rfl
theorem s_beads (l : Launch) (bs : Nat → Nat) (n : Nat) (h : xH) (hN : NH bs n h) (k : Int32) : Ev l zX4_beads [.inr (0, 0), vI k] (sbO :: h) (fun r h' => r = some (vI (b2i (okBeads n k))) ∧ ∃ h1, NH bs (mBeads n k) h1 ∧ h' = sbO :: h1) := by
  obtain ⟨ah, en, ow, fr, bd, se, fw, rc, rfl, -⟩ := id hN
  refine ev_run okX4_beads (by decide +kernel) (Nat.le_of_ble_eq_true rfl) 60 ?_
  refine ⟨[1, 2, 3, 4, 5], _, c_shorten l bs n _ hN k, fun r hc' hP _ => ?_⟩
  obtain ⟨rfl, hN'⟩ := hP
  obtain ⟨ah, en, ow, fr, bd, se, fw, rc, rfl, -⟩ := id hN'
  exact And.intro (b2i_01 _) (And.intro ⟨rfl, _, hN', rfl⟩ rfl)
theorem s_count (l : Launch) (bs : Nat → Nat) (n : Nat) (h : xH) (hN : NH bs n h) (k : Int32) : Ev l zX4_count [.inr (0, 0), vI k] (sbO :: h) (fun r h' => r = some (vI (qCount bs n k)) ∧ ∃ h1, NH bs n h1 ∧ h' = sbO :: h1) := by
  obtain ⟨ah, en, ow, fr, bd, se, fw, rc, rfl, -⟩ := id hN
  refine ev_run okX4_count (by decide +kernel) (Nat.le_of_ble_eq_true rfl) 60 ?_
  refine ⟨[1, 2, 3, 4, 5], _, c_countOf l bs n _ hN k, fun r hc' hP _ => ?_⟩
  obtain ⟨rfl, rfl⟩ := hP
  exact And.intro ⟨rfl, _, hN, rfl⟩ rfl
theorem s_least (l : Launch) (bs : Nat → Nat) (n : Nat) (h : xH) (hN : NH bs n h) : Ev l zX4_least [.inr (0, 0)] (sbO :: h) (fun r h' => r = some (vI (qLeast bs n)) ∧ ∃ h1, NH bs n h1 ∧ h' = sbO :: h1) := by
  obtain ⟨ah, en, ow, fr, bd, se, fw, rc, rfl, -⟩ := id hN
  refine ev_run okX4_least (by decide +kernel) (Nat.le_of_ble_eq_true rfl) 60 ?_
  refine ⟨[1, 2, 3, 4, 5], _, c_fewest l bs n _ hN, fun r hc' hP _ => ?_⟩
  obtain ⟨rfl, hN'⟩ := hP
  obtain ⟨ah, en, ow, fr, bd, se, fw, rc, rfl, -⟩ := id hN'
  exact And.intro ⟨rfl, _, hN', rfl⟩ rfl
theorem s_cut (l : Launch) (bs : Nat → Nat) (n : Nat) (h : xH) (hN : NH bs n h) (k : Int32) : Ev l zX4_cut [.inr (0, 0), vI k] (sbO :: h) (fun r h' => r = some (vI (qCut bs n k)) ∧ ∃ h1, NH bs n h1 ∧ h' = sbO :: h1) := by
  obtain ⟨ah, en, ow, fr, bd, se, fw, rc, rfl, -⟩ := id hN
  refine ev_run okX4_cut (by decide +kernel) (Nat.le_of_ble_eq_true rfl) 60 ?_
  refine ⟨[1, 2, 3, 4, 5], _, c_cutOf l bs n _ hN k, fun r hc' hP _ => ?_⟩
  obtain ⟨rfl, hN'⟩ := hP
  obtain ⟨ah, en, ow, fr, bd, se, fw, rc, rfl, -⟩ := id hN'
  exact And.intro ⟨rfl, _, hN', rfl⟩ rfl
theorem s_rows (l : Launch) (bs : Nat → Nat) (n : Nat) (h : xH) (hN : NH bs n h) : Ev l zX4_rows [.inr (0, 0)] (sbO :: h) (fun r h' => r = some (vI (qRows bs n)) ∧ ∃ h1, NH bs n h1 ∧ h' = sbO :: h1) := by
  obtain ⟨ah, en, ow, fr, bd, se, fw, rc, rfl, -⟩ := id hN
  refine ev_run okX4_rows (by decide +kernel) (Nat.le_of_ble_eq_true rfl) 60 ?_
  refine ⟨[1, 2, 3, 4, 5], _, c_countRows l bs n _ hN, fun r hc' hP _ => ?_⟩
  obtain ⟨rfl, hN'⟩ := hP
  obtain ⟨ah, en, ow, fr, bd, se, fw, rc, rfl, -⟩ := id hN'
  exact And.intro ⟨rfl, _, hN', rfl⟩ rfl
theorem s_halves (l : Launch) (bs : Nat → Nat) (n : Nat) (h : xH) (hN : NH bs n h) (k : Int32) : Ev l zX4_halves [.inr (0, 0), vI k] (sbO :: h) (fun r h' => r = some (vI (qHalves bs n k)) ∧ ∃ h1, NH bs n h1 ∧ h' = sbO :: h1) := by
  obtain ⟨ah, en, ow, fr, bd, se, fw, rc, rfl, -⟩ := id hN
  refine ev_run okX4_halves (by decide +kernel) (Nat.le_of_ble_eq_true rfl) 60 ?_
  refine ⟨[1, 2, 3, 4, 5], _, c_halvedBy l bs n _ hN k, fun r hc' hP _ => ?_⟩
  obtain ⟨rfl, rfl⟩ := hP
  exact And.intro ⟨rfl, _, hN, rfl⟩ rfl
theorem s_net (l : Launch) (N : Nat) (mk : Nat → Nat → Nat) (w : Option wEnd) (h : xH) (hN : TH N mk w h) (k : Int32) : Ev l zX4_net [.inr (0, 0), vI k] (sbO :: h) (fun r h' => r = some (vI (b2i (okNet k))) ∧ ∃ h1, TH (nNet N k) (sNet mk k) (wNet w k) h1 ∧ h' = sbO :: h1) := by
  obtain ⟨ma, sz, wk, ax, ay, ak, ob, rfl, -⟩ := id hN
  refine ev_run okX4_net (by decide +kernel) (Nat.le_of_ble_eq_true rfl) 60 ?_
  refine ⟨[6, 7], _, c_resize l N mk w _ hN k, fun r hc' hP _ => ?_⟩
  obtain ⟨rfl, hN'⟩ := hP
  obtain ⟨ma, sz, wk, ax, ay, ak, ob, rfl, -⟩ := id hN'
  exact And.intro (b2i_01 _) (And.intro ⟨rfl, _, hN', rfl⟩ rfl)
theorem s_mark (l : Launch) (N : Nat) (mk : Nat → Nat → Nat) (w : Option wEnd) (h : xH) (hN : TH N mk w h) (x y k : Int32) : Ev l zX4_mark [.inr (0, 0), vI x, vI y, vI k] (sbO :: h) (fun r h' => r = some (vI (b2i (okMark N x y k))) ∧ ∃ h1, TH N (sMark N mk x y k) (wMark N w x y k) h1 ∧ h' = sbO :: h1) := by
  obtain ⟨ma, sz, wk, ax, ay, ak, ob, rfl, -⟩ := id hN
  refine ev_run okX4_mark (by decide +kernel) (Nat.le_of_ble_eq_true rfl) 60 ?_
  refine ⟨[6, 7], _, c_setMark l N mk w _ hN x y k, fun r hc' hP _ => ?_⟩
  obtain ⟨rfl, hN'⟩ := hP
  obtain ⟨ma, sz, wk, ax, ay, ak, ob, rfl, -⟩ := id hN'
  exact And.intro (b2i_01 _) (And.intro ⟨rfl, _, hN', rfl⟩ rfl)
theorem s_all (l : Launch) (N : Nat) (mk : Nat → Nat → Nat) (w : Option wEnd) (h : xH) (hN : TH N mk w h) : Ev l zX4_all [.inr (0, 0)] (sbO :: h) (fun r h' => r = some (vI (nI (qAll N mk))) ∧ ∃ h1, TH N mk w h1 ∧ h' = sbO :: h1) := by
  obtain ⟨ma, sz, wk, ax, ay, ak, ob, rfl, -⟩ := id hN
  refine ev_run okX4_all (by decide +kernel) (Nat.le_of_ble_eq_true rfl) 60 ?_
  refine ⟨[6, 7], _, c_countFull l N mk w _ hN, fun r hc' hP _ => ?_⟩
  obtain ⟨rfl, rfl⟩ := hP
  exact And.intro ⟨rfl, _, hN, rfl⟩ rfl
theorem s_doors (l : Launch) (N : Nat) (mk : Nat → Nat → Nat) (w : Option wEnd) (h : xH) (hN : TH N mk w h) : Ev l zX4_doors [.inr (0, 0)] (sbO :: h) (fun r h' => r = some (vI (nI (qDoors N mk))) ∧ ∃ h1, TH N mk w h1 ∧ h' = sbO :: h1) := by
  obtain ⟨ma, sz, wk, ax, ay, ak, ob, rfl, -⟩ := id hN
  refine ev_run okX4_doors (by decide +kernel) (Nat.le_of_ble_eq_true rfl) 60 ?_
  refine ⟨[6, 7], _, c_outer l N mk w _ hN, fun r hc' hP _ => ?_⟩
  obtain ⟨rfl, rfl⟩ := hP
  exact And.intro ⟨rfl, _, hN, rfl⟩ rfl
theorem s_doorsAll (l : Launch) (N : Nat) (mk : Nat → Nat → Nat) (w : Option wEnd) (h : xH) (hN : TH N mk w h) : Ev l zX4_doorsAll [.inr (0, 0)] (sbO :: h) (fun r h' => r = some (vI (nI (qDoorsAll N mk))) ∧ ∃ h1, TH N mk w h1 ∧ h' = sbO :: h1) := by
  obtain ⟨ma, sz, wk, ax, ay, ak, ob, rfl, -⟩ := id hN
  refine ev_run okX4_doorsAll (by decide +kernel) (Nat.le_of_ble_eq_true rfl) 60 ?_
  refine ⟨[6, 7], _, c_countDoors l N mk w _ hN, fun r hc' hP _ => ?_⟩
  obtain ⟨rfl, rfl⟩ := hP
  exact And.intro ⟨rfl, _, hN, rfl⟩ rfl
theorem s_room (l : Launch) (n : Nat) (W : Nat → Nat → Nat) (rent : Nat) (mo : Nat → Int) (h : xH) (hN : RH n W rent mo h) (x y k : Int32) : Ev l zX4_room [.inr (0, 0), vI x, vI y, vI k] (sbO :: h) (fun r h' => r = some (vI (b2i (okRoom n x y k))) ∧ ∃ h1, RH n (sRoom n W x y k) rent (moIf (okRoom n x y k) mo) h1 ∧ h' = sbO :: h1) := by
  obtain ⟨M, tr, ow', be, pr, mo', ct, re, gr, se, rfl, -⟩ := id hN
  refine ev_run okX4_room (by decide +kernel) (Nat.le_of_ble_eq_true rfl) 60 ?_
  refine ⟨[8, 9, 10, 11, 12, 13, 14], _, c_setWorth3 l n W rent mo _ hN x y k, fun r hc' hP _ => ?_⟩
  obtain ⟨rfl, hN'⟩ := hP
  obtain ⟨M, tr, ow', be, pr, mo', ct, re, gr, se, rfl, -⟩ := id hN'
  exact And.intro (b2i_01 _) (And.intro ⟨rfl, _, hN', rfl⟩ rfl)
theorem s_rent (l : Launch) (n : Nat) (W : Nat → Nat → Nat) (rent : Nat) (mo : Nat → Int) (h : xH) (hN : RH n W rent mo h) (k : Int32) : Ev l zX4_rent [.inr (0, 0), vI k] (sbO :: h) (fun r h' => r = some (vI (b2i (okRent k))) ∧ ∃ h1, RH n W (sRent rent k) (moIf (okRent k) mo) h1 ∧ h' = sbO :: h1) := by
  obtain ⟨M, tr, ow', be, pr, mo', ct, re, gr, se, rfl, -⟩ := id hN
  refine ev_run okX4_rent (by decide +kernel) (Nat.le_of_ble_eq_true rfl) 60 ?_
  refine ⟨[8, 9, 10, 11, 12, 13, 14], _, c_setRent l n W rent mo _ hN k, fun r hc' hP _ => ?_⟩
  obtain ⟨rfl, hN'⟩ := hP
  obtain ⟨M, tr, ow', be, pr, mo', ct, re, gr, se, rfl, -⟩ := id hN'
  exact And.intro (b2i_01 _) (And.intro ⟨rfl, _, hN', rfl⟩ rfl)
theorem s_best (l : Launch) (n : Nat) (W : Nat → Nat → Nat) (rent : Nat) (mo : Nat → Int) (h : xH) (hN : RH n W rent mo h) : Ev l zX4_best [.inr (0, 0)] (sbO :: h) (fun r h' => r = some (vI (nI (sW W n (bX W n)))) ∧ ∃ h1, RH n W rent mo h1 ∧ h' = sbO :: h1) := by
  obtain ⟨M, tr, ow', be, pr, mo', ct, re, gr, se, rfl, -⟩ := id hN
  refine ev_run okX4_best (by decide +kernel) (Nat.le_of_ble_eq_true rfl) 60 ?_
  refine ⟨[8, 9, 10, 11, 12, 13, 14], _, c_best l n W rent mo _ hN, fun r hc' hP _ => ?_⟩
  obtain ⟨rfl, hN'⟩ := hP
  obtain ⟨M, tr, ow', be, pr, mo', ct, re, gr, se, rfl, -⟩ := id hN'
  exact And.intro ⟨rfl, _, hN', rfl⟩ rfl
theorem s_has (l : Launch) (n : Nat) (W : Nat → Nat → Nat) (rent : Nat) (mo : Nat → Int) (h : xH) (hN : RH n W rent mo h) (k : Int32) : Ev l zX4_has [.inr (0, 0), vI k] (sbO :: h) (fun r h' => r = some (vI (qHas n W k)) ∧ ∃ h1, RH n W rent mo h1 ∧ h' = sbO :: h1) := by
  obtain ⟨M, tr, ow', be, pr, mo', ct, re, gr, se, rfl, -⟩ := id hN
  refine ev_run okX4_has (by decide +kernel) (Nat.le_of_ble_eq_true rfl) 60 ?_
  refine ⟨[8, 9, 10, 11, 12, 13, 14], _, c_roomOf l n W rent mo _ hN k, fun r hc' hP _ => ?_⟩
  obtain ⟨rfl, hN'⟩ := hP
  obtain ⟨M, tr, ow', be, pr, mo', ct, re, gr, se, rfl, -⟩ := id hN'
  exact And.intro ⟨rfl, _, hN', rfl⟩ rfl
theorem s_price (l : Launch) (n : Nat) (W : Nat → Nat → Nat) (rent : Nat) (mo : Nat → Int) (h : xH) (hN : RH n W rent mo h) (k : Int32) : Ev l zX4_price [.inr (0, 0), vI k] (sbO :: h) (fun r h' => r = some (vL (qPrice n W rent k)) ∧ ∃ h1, RH n W rent mo h1 ∧ h' = sbO :: h1) := by
  obtain ⟨M, tr, ow', be, pr, mo', ct, re, gr, se, rfl, -⟩ := id hN
  refine ev_run okX4_price (by decide +kernel) (Nat.le_of_ble_eq_true rfl) 60 ?_
  refine ⟨[8, 9, 10, 11, 12, 13, 14], _, c_priceOf l n W rent mo _ hN k, fun r hc' hP _ => ?_⟩
  obtain ⟨rfl, hN'⟩ := hP
  obtain ⟨M, tr, ow', be, pr, mo', ct, re, gr, se, rfl, -⟩ := id hN'
  exact And.intro ⟨rfl, _, hN', rfl⟩ rfl
theorem s_grudge (l : Launch) (n : Nat) (W : Nat → Nat → Nat) (rent : Nat) (mo : Nat → Int) (h : xH) (hN : RH n W rent mo h) (x y : Int32) : Ev l zX4_grudge [.inr (0, 0), vI x, vI y] (sbO :: h) (fun r h' => r = some (vL (qGrudge n W rent mo x y)) ∧ ∃ h1, RH n W rent mo h1 ∧ h' = sbO :: h1) := by
  obtain ⟨M, tr, ow', be, pr, mo', ct, re, gr, se, rfl, -⟩ := id hN
  refine ev_run okX4_grudge (by decide +kernel) (Nat.le_of_ble_eq_true rfl) 60 ?_
  refine ⟨[8, 9, 10, 11, 12, 13, 14], _, c_grudge l n W rent mo _ hN x y, fun r hc' hP _ => ?_⟩
  obtain ⟨rfl, hN'⟩ := hP
  obtain ⟨M, tr, ow', be, pr, mo', ct, re, gr, se, rfl, -⟩ := id hN'
  exact And.intro ⟨rfl, _, hN', rfl⟩ rfl
theorem s_turned (l : Launch) (n : Nat) (W : Nat → Nat → Nat) (rent : Nat) (mo : Nat → Int) (h : xH) (hN : RH n W rent mo h) (x k : Int32) : Ev l zX4_turned [.inr (0, 0), vI x, vI k] (sbO :: h) (fun r h' => r = some (vI (b2i (okTurn n x k))) ∧ ∃ h1, RH n W rent (sTurn n mo x k) h1 ∧ h' = sbO :: h1) := by
  obtain ⟨M, tr, ow', be, pr, mo', ct, re, gr, se, rfl, -⟩ := id hN
  refine ev_run okX4_turned (by decide +kernel) (Nat.le_of_ble_eq_true rfl) 60 ?_
  refine ⟨[8, 9, 10, 11, 12, 13, 14], _, c_setMore l n W rent mo _ hN x k, fun r hc' hP _ => ?_⟩
  obtain ⟨rfl, hN'⟩ := hP
  obtain ⟨M, tr, ow', be, pr, mo', ct, re, gr, se, rfl, -⟩ := id hN'
  exact And.intro (b2i_01 _) (And.intro ⟨rfl, _, hN', rfl⟩ rfl)
theorem s_line (l : Launch) (n L : Nat) (S : Nat → Nat → Nat) (h : xH) (hN : LH n L S h) (k : Int32) : Ev l zX4_line [.inr (0, 0), vI k] (sbO :: h) (fun r h' => r = some (vI (b2i (okLine k))) ∧ ∃ h1, LH n (sLen L k) (sLin S k) h1 ∧ h' = sbO :: h1) := by
  obtain ⟨M, Ah, En, Ho, Sv, ct, st, un, sh, sd, sf, rfl, -⟩ := id hN
  refine ev_run okX4_line (by decide +kernel) (Nat.le_of_ble_eq_true rfl) 60 ?_
  refine ⟨[15, 16, 17, 18, 19, 20], _, c_resize0 l n L S _ hN k, fun r hc' hP _ => ?_⟩
  obtain ⟨rfl, hN'⟩ := hP
  obtain ⟨M, Ah, En, Ho, Sv, ct, st, un, sh, sd, sf, rfl, -⟩ := id hN'
  exact And.intro (b2i_01 _) (And.intro ⟨rfl, _, hN', rfl⟩ rfl)
theorem s_stretch (l : Launch) (n L : Nat) (S : Nat → Nat → Nat) (h : xH) (hN : LH n L S h) (x y k : Int32) : Ev l zX4_stretch [.inr (0, 0), vI x, vI y, vI k] (sbO :: h) (fun r h' => r = some (vI (b2i (okStr n L x y k))) ∧ ∃ h1, LH n L (sStr n L S x y k) h1 ∧ h' = sbO :: h1) := by
  obtain ⟨M, Ah, En, Ho, Sv, ct, st, un, sh, sd, sf, rfl, -⟩ := id hN
  refine ev_run okX4_stretch (by decide +kernel) (Nat.le_of_ble_eq_true rfl) 60 ?_
  refine ⟨[15, 16, 17, 18, 19, 20], _, c_setWorth0 l n L S _ hN x y k, fun r hc' hP _ => ?_⟩
  obtain ⟨rfl, hN'⟩ := hP
  obtain ⟨M, Ah, En, Ho, Sv, ct, st, un, sh, sd, sf, rfl, -⟩ := id hN'
  exact And.intro (b2i_01 _) (And.intro ⟨rfl, _, hN', rfl⟩ rfl)
theorem s_who (l : Launch) (n L : Nat) (S : Nat → Nat → Nat) (h : xH) (hN : LH n L S h) (k : Int32) : Ev l zX4_who [.inr (0, 0), vI k] (sbO :: h) (fun r h' => r = some (vI (qWho n L S k)) ∧ ∃ h1, LH n L S h1 ∧ h' = sbO :: h1) := by
  obtain ⟨M, Ah, En, Ho, Sv, ct, st, un, sh, sd, sf, rfl, -⟩ := id hN
  refine ev_run okX4_who (by decide +kernel) (Nat.le_of_ble_eq_true rfl) 60 ?_
  refine ⟨[15, 16, 17, 18, 19, 20], _, c_holderOf l n L S _ hN k, fun r hc' hP _ => ?_⟩
  obtain ⟨rfl, hN'⟩ := hP
  obtain ⟨M, Ah, En, Ho, Sv, ct, st, un, sh, sd, sf, rfl, -⟩ := id hN'
  exact And.intro ⟨rfl, _, hN', rfl⟩ rfl
theorem s_place (l : Launch) (n L : Nat) (S : Nat → Nat → Nat) (h : xH) (hN : LH n L S h) (x k : Int32) : Ev l zX4_place [.inr (0, 0), vI x, vI k] (sbO :: h) (fun r h' => r = some (vL (qPlace n L S x k)) ∧ ∃ h1, LH n L S h1 ∧ h' = sbO :: h1) := by
  obtain ⟨M, Ah, En, Ho, Sv, ct, st, un, sh, sd, sf, rfl, -⟩ := id hN
  refine ev_run okX4_place (by decide +kernel) (Nat.le_of_ble_eq_true rfl) 60 ?_
  refine ⟨[15, 16, 17, 18, 19, 20], _, c_endOf l n L S _ hN x k, fun r hc' hP _ => ?_⟩
  obtain ⟨rfl, hN'⟩ := hP
  obtain ⟨M, Ah, En, Ho, Sv, ct, st, un, sh, sd, sf, rfl, -⟩ := id hN'
  exact And.intro ⟨rfl, _, hN', rfl⟩ rfl
theorem s_worth (l : Launch) (n L : Nat) (S : Nat → Nat → Nat) (h : xH) (hN : LH n L S h) (x y k : Int32) : Ev l zX4_worth [.inr (0, 0), vI x, vI y, vI k] (sbO :: h) (fun r h' => r = some (vL (qWorth n L S x y k)) ∧ ∃ h1, LH n L S h1 ∧ h' = sbO :: h1) := by
  obtain ⟨M, Ah, En, Ho, Sv, ct, st, un, sh, sd, sf, rfl, -⟩ := id hN
  refine ev_run okX4_worth (by decide +kernel) (Nat.le_of_ble_eq_true rfl) 60 ?_
  refine ⟨[15, 16, 17, 18, 19, 20], _, c_worthOf l n L S _ hN x y k, fun r hc' hP _ => ?_⟩
  obtain ⟨rfl, hN'⟩ := hP
  obtain ⟨M, Ah, En, Ho, Sv, ct, st, un, sh, sd, sf, rfl, -⟩ := id hN'
  exact And.intro ⟨rfl, _, hN', rfl⟩ rfl
theorem s_envies (l : Launch) (n L : Nat) (S : Nat → Nat → Nat) (h : xH) (hN : LH n L S h) (k : Int32) : Ev l zX4_envies [.inr (0, 0), vI k] (sbO :: h) (fun r h' => r = some (vI (qEnvies n L S k)) ∧ ∃ h1, LH n L S h1 ∧ h' = sbO :: h1) := by
  obtain ⟨M, Ah, En, Ho, Sv, ct, st, un, sh, sd, sf, rfl, -⟩ := id hN
  refine ev_run okX4_envies (by decide +kernel) (Nat.le_of_ble_eq_true rfl) 60 ?_
  refine ⟨[15, 16, 17, 18, 19, 20], _, c_envied l n L S _ hN k, fun r hc' hP _ => ?_⟩
  obtain ⟨rfl, hN'⟩ := hP
  obtain ⟨M, Ah, En, Ho, Sv, ct, st, un, sh, sd, sf, rfl, -⟩ := id hN'
  exact And.intro ⟨rfl, _, hN', rfl⟩ rfl
theorem s_marked (l : Launch) (N : Nat) (mk : Nat → Nat → Nat) (w : Option wEnd) (h : xH) (hN : TH N mk w h) (x y : Int32) : Ev l zX4_marked [.inr (0, 0), vI x, vI y] (sbO :: h) (fun r h' => r = some (vI (qMark N mk x y)) ∧ ∃ h1, TH N mk w h1 ∧ h' = sbO :: h1) := by
  obtain ⟨ma, sz, wk, ax, ay, ak, ob, rfl, hB, -⟩ := id hN
  refine ev_run okX4_marked (by decide +kernel) (Nat.le_of_ble_eq_true rfl) 60 ?_
  refine ⟨[6, 7], _, c_markAt l N mk ma sz wk ax ay ak ob x y hB, fun r hc' hP _ => ?_⟩
  obtain ⟨rfl, rfl⟩ := hP
  exact And.intro ⟨rfl, _, hN, rfl⟩ rfl
theorem s_ended (l : Launch) (N : Nat) (mk : Nat → Nat → Nat) (w : Option wEnd) (hw : wOk N w) (h : xH) (hN : TH N mk w h) (k : Int32) : Ev l zX4_ended [.inr (0, 0), vI k] (sbO :: h) (fun r h' => r = some (vI (qEnded w k)) ∧ ∃ h1, TH N mk w h1 ∧ h' = sbO :: h1) := by
  obtain ⟨ma, sz, wk, ax, ay, ak, ob, rfl, -⟩ := id hN
  refine ev_run okX4_ended (by decide +kernel) (Nat.le_of_ble_eq_true rfl) 60 ?_
  refine ⟨[6, 7], _, c_walkEnd l N mk w hw _ hN k, fun r hc' hP _ => ?_⟩
  obtain ⟨rfl, rfl⟩ := hP
  exact And.intro ⟨rfl, _, hN, rfl⟩ rfl
theorem s_check (l : Launch) (n : Nat) (W : Nat → Nat → Nat) (rent : Nat) (mo : Nat → Int) (h : xH) (hN : RH n W rent mo h) : Ev l zX4_check [.inr (0, 0)] (sbO :: h) (fun r h' => (∃ v : Int32, r = some (vI v) ∧ chkV n W rent mo v) ∧ ∃ h1, RH n W rent mo h1 ∧ h' = sbO :: h1) := by
  obtain ⟨M, tr, ow', be, pr, mo', ct, re, gr, se, rfl, -⟩ := id hN
  refine ev_run okX4_check (by decide +kernel) (Nat.le_of_ble_eq_true rfl) 60 ?_
  refine ⟨[8, 9, 10, 11, 12, 13, 14], _, c_check l n W rent mo _ hN, fun r hc' hP _ => ?_⟩
  obtain ⟨⟨v, rfl, hv⟩, hN'⟩ := hP
  obtain ⟨M, tr, ow', be, pr, mo', ct, re, gr, se, rfl, -⟩ := id hN'
  exact And.intro ⟨⟨v, rfl, hv⟩, _, hN', rfl⟩ rfl
/-- the answer of a walk, and the end that is kept -/
theorem walk_ans {N : Nat} {mk : Nat → Nat → Nat} (hok : mkOk N mk) {k : Int32} (ho : outD N mk k = true) : ∃ n e, wRes N mk k.toInt.toNat n e := by
  have h2 := ho
  unfold outD at h2
  rw [Bool.and_eq_true, decide_eq_true_eq] at h2
  exact walk_ends hok (by omega) h2.2
def sWalk (N : Nat) (mk : Nat → Nat → Nat) (w : Option wEnd) (k : Int32) (v : Int32) (w' : Option wEnd) : Prop := (outD N mk k = false ∧ v = -1 ∧ w' = w) ∨ (outD N mk k = true ∧ ∃ n e, wRes N mk k.toInt.toNat n e ∧ v = nI (n + 1) ∧ w' = some e)
theorem s_walk (l : Launch) (N : Nat) (mk : Nat → Nat → Nat) (w : Option wEnd) (h : xH) (hN : TH N mk w h) (k : Int32) (v : Int32) (w' : Option wEnd) (hv : sWalk N mk w k v w') : Ev l zX4_walk [.inr (0, 0), vI k] (sbO :: h) (fun r h' => r = some (vI v) ∧ ∃ h1, TH N mk w' h1 ∧ h' = sbO :: h1) := by
  obtain ⟨ma, sz, wk, ax, ay, ak, ob, rfl, -⟩ := id hN
  refine ev_run okX4_walk (by decide +kernel) (Nat.le_of_ble_eq_true rfl) 60 ?_
  refine ⟨[6, 7], _, c_walkFrom l N mk w _ hN k, fun r hc' hP _ => ?_⟩
  have hP : r = some (vI v) ∧ TH N mk w' hc' := by
    rcases hv with ⟨v1, rfl, rfl⟩ | ⟨v1, n, e, v2, rfl, rfl⟩
    · rcases hP with ⟨_, p2, p3⟩ | ⟨p1, _⟩
      · exact ⟨p2, p3⟩
      · rw [v1] at p1; cases p1
    · rcases hP with ⟨p1, _⟩ | ⟨_, p2⟩
      · rw [v1] at p1; cases p1
      · exact p2 n e v2
  obtain ⟨rfl, hN'⟩ := hP
  obtain ⟨ma, sz, wk, ax, ay, ak, ob, rfl, -⟩ := id hN'
  exact And.intro ⟨rfl, _, hN', rfl⟩ rfl
theorem m_walk' (l : Launch) (N : Nat) (mk : Nat → Nat → Nat) (w : Option wEnd) (nk rm : Nat → Int32) (ln : Int32) (lg : Nat → Int64) (h : xH) (hH : MT N mk w nk rm ln lg h) (k : Int32) (v : Int32) (w' : Option wEnd) (hv : sWalk N mk w k v w') : Ev l zX5_walk [.inr (40, 0), vI k] h (fun r h' => r = some (vI v) ∧ MT N mk w' nk rm ln lg h') := by
  refine ev_mono (m_walk l N mk w nk rm ln lg h hH k) (fun r h' hP => ?_)
  rcases hv with ⟨v1, rfl, rfl⟩ | ⟨v1, n, e, v2, rfl, rfl⟩
  · rcases hP with ⟨_, p2, p3⟩ | ⟨p1, _⟩
    · exact ⟨p2, p3⟩
    · rw [v1] at p1; cases p1
  · rcases hP with ⟨p1, _⟩ | ⟨_, p2⟩
    · rw [v1] at p1; cases p1
    · exact p2 n e v2
theorem sWalk_ok {N : Nat} {mk : Nat → Nat → Nat} (hok : mkOk N mk) (w : Option wEnd) (hw : wOk N w) (k : Int32) : ∃ v w', sWalk N mk w k v w' ∧ wOk N w' := by
  cases ho : outD N mk k with
  | false => exact ⟨-1, w, Or.inl ⟨ho, rfl, rfl⟩, hw⟩
  | true =>
    obtain ⟨n, e, hR⟩ := walk_ans hok ho
    refine ⟨_, _, Or.inr ⟨ho, n, e, hR, rfl, rfl⟩, ?_⟩
    obtain ⟨h1, h2, h3, h4⟩ := hR
    unfold wStep at h3
    generalize wSeq N mk (k.toInt.toNat, N - 1 - k.toInt.toNat, 0, 2) n = s at h3
    cases ho2 : oth mk s.1 s.2.1 s.2.2.1 s.2.2.2 with
    | none =>
      simp only [ho2] at h3
      cases h3
      exact trivial
    | some t =>
      simp only [ho2] at h3
      by_cases hc : s.2.2.1 = 0 ∧ t = 2 ∧ s.1 + s.2.1 + 1 = N
      · rw [if_pos hc] at h3
        cases h3
        show s.1 < N
        omega
      · rw [if_neg hc] at h3
        cases h3
theorem s_people (l : Launch) (n : Nat) (W : Nat → Nat → Nat) (rent : Nat) (mo : Nat → Int) (h : xH) (hN : RH n W rent mo h) (L : Nat) (S : Nat → Nat → Nat) (g : xH) (hL : LH n L S g) (k : Int32) : Ev l zX4_people [.inr (0, 0), vI k] (sbO :: (h ++ g)) (fun r h' => (okPeople k = false ∧ r = some (vI 0) ∧ ∃ h1 g1, RH n W rent mo h1 ∧ LH n L S g1 ∧ h' = sbO :: (h1 ++ g1)) ∨ (okPeople k = true ∧ r = some (vI 1) ∧ ∃ h1 g1, RH k.toInt.toNat W0 0 mo0 h1 ∧ LH k.toInt.toNat L W0 g1 ∧ h' = sbO :: (h1 ++ g1))) := by
  obtain ⟨M, tr, ow', be, pr, mo', ct, re, gr, se, rfl, -⟩ := id hN
  obtain ⟨M, Ah, En, Ho, Sv, ct, st, un, sh, sd, sf, rfl, -⟩ := id hL
  refine ev_run okX4_people (by decide +kernel) (Nat.le_of_ble_eq_true rfl) 60 ?_
  refine And.intro (fun q => ?_) (fun q => And.intro (fun q2 => ?_) (fun q2 => ?_))
  · have q : k.toInt < 1 := lt_T.mp q
    have e : okPeople k = false := decide_eq_false (by omega)
    exact And.intro (Or.inl rfl) (And.intro (Or.inl ⟨e, rfl, _, _, hN, hL, rfl⟩) rfl)
  · have q : ¬ k.toInt < 1 := fun z => q (lt_T.mpr z)
    have q2 : k.toInt ≤ 5 := le_T.mp q2
    have e : okPeople k = true := decide_eq_true (by omega)
    obtain ⟨m, hm, rfl, hmt⟩ := nI_arg (x := k) (by omega)
    refine ⟨[8, 9, 10, 11, 12, 13, 14], _, c_invite3 l n W rent mo _ hN m (by omega) (by omega) _ rfl, fun r hc' hP _ => ?_⟩
    obtain ⟨rfl, hN'⟩ := hP
    obtain ⟨M1, tr1, ow1, be1, pr1, mq1, ct1, re1, gr1, se1, rfl, -⟩ := id hN'
    refine ⟨[15, 16, 17, 18, 19, 20], _, c_invite0 l n L S _ hL m (by omega) (by omega) _ rfl, fun r hc' hP _ => ?_⟩
    obtain ⟨rfl, hL'⟩ := hP
    obtain ⟨M2, Ah2, En2, Ho2, Sv2, ct2, st2, un2, sh2, sd2, sf2, rfl, -⟩ := id hL'
    have em : (nI m).toInt.toNat = m := by rw [hmt]; rfl
    refine And.intro (Or.inr rfl) (And.intro (Or.inr ⟨e, rfl, rmH M1 tr1 ow1 be1 pr1 mq1 ct1 re1 gr1 se1, lnH M2 Ah2 En2 Ho2 Sv2 ct2 st2 un2 sh2 sd2 sf2, ?_, ?_, rfl⟩) rfl)
    · rw [em]; exact hN'
    · rw [em]; exact hL'
  · have q2 : ¬ k.toInt ≤ 5 := fun z => q2 (le_T.mpr z)
    have e : okPeople k = false := decide_eq_false (by omega)
    exact And.intro (Or.inl rfl) (And.intro (Or.inl ⟨e, rfl, _, _, hN, hL, rfl⟩) rfl)
