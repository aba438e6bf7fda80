/-! ===== a runner that reads the script ===== -/
def y_o30 (sL : Nat) (xs : Nat → Int32) (go : List xI → xL → List xV → xH → Prop) (rest : List xI) (lv : xL) (st : List xV) (hp : xH) : Prop := match st with
  | .inl (.int i) :: .inr (99, 0) :: st' => vp_in i sL ∧ go rest lv (.inl (.int (xs i.toNatClampNeg)) :: st') hp
  | _ => False
def y_o31 (sL : Nat) (go : List xI → xL → List xV → xH → Prop) (rest : List xI) (lv : xL) (st : List xV) (hp : xH) : Prop := match st with
  | .inr (99, 0) :: st' => go rest lv (.inl (.int (Int32.ofNat sL)) :: st') hp
  | _ => False
def y_step (sL : Nat) (xs : Nat → Int32) (l : Launch) (mth : Nat → xM) (code : List xI) (ret : Option xV → xH → Prop) (go : List xI → xL → List xV → xH → Prop) (en : xI) (rest : List xI) (lv : xL) (st : List xV) (hp : xH) : Prop := match Nat.beq en.2.1 30 with
  | true => y_o30 sL xs go rest lv st hp
  | false => match Nat.beq en.2.1 31 with
    | true => y_o31 sL go rest lv st hp
    | false => x_step l mth code ret go en rest lv st hp
def y_run (sL : Nat) (xs : Nat → Int32) (l : Launch) (mth : Nat → xM) (code : List xI) (cuts : List (Nat × List Nat)) (K : Nat → xL → List xV → xH → Prop) (ret : Option xV → xH → Prop) : Nat → List xI → xL → List xV → xH → Prop
  | 0 => fun _ _ _ _ => False
  | n + 1 => fun rest lv st hp => match rest with
    | [] => False
    | en :: rest' => y_step sL xs l mth code ret (x_goP cuts K (y_run sL xs l mth code cuts K ret n)) en rest' lv st hp
def y_okI (mth : Nat → xM) (own : String) (fr lo nL : Nat) (rt : Option FieldType) (en : xI) : Bool := match Nat.beq en.2.1 30 with
  | true => decide (en.2.2.1 = .iaload) && Nat.beq en.2.2.2.1 1
  | false => match Nat.beq en.2.1 31 with
    | true => decide (en.2.2.1 = .arraylength) && Nat.beq en.2.2.2.1 1
    | false => x_okI mth own fr lo nL rt en
def y_okE (mth : Nat → xM) (own : String) (cc : ByteArray) (fr lo nL : Nat) (rt : Option FieldType) (en : xI) : Bool := decide (decode cc en.1 = .ok (en.2.2.1, en.2.2.2.1)) && y_okI mth own fr lo nL rt en
def y_okM (mth : Nat → xM) (z : xM) (code : List xI) : Bool := code.all (y_okE mth z.1.cls z.2.1 z.2.2.2.2.1 z.2.2.2.2.2 z.2.2.1 z.2.2.2.1) && x_link code
section YWALK
variable {p : Program} {l : Launch} {e : Env} {R : Room} {s : State} {m : MethodId} {args : Array Value} {below : List Frame} {meth : Method} {c : Code} {Q : State → Prop} {D : va_G} {tc : Nat → Nat} {A : Nat → Prop} {OK : (Nat → Nat → Nat) → Prop} {nc ns : Nat}
variable {mth : Nat → xM} {z : xM} {code : List xI} {ret : Option xV → xH → Prop} {cuts : List (Nat × List Nat)} {K : Nat → xL → List xV → xH → Prop}
theorem y_sound {sb sL : Nat} {xs : Nat → Int32} (hX : va_X sb sL xs s s.heap) (hbl : sb < s.heap.size) (hbA : ¬ A sb) (hOK : ∀ ad, OK ad → ad 99 0 = sb) (hC : CC p s m args meth c D tc A z.2.2.1 z.1.cls z.2.1) (hok : y_okM mth z code = true) (hR : z.2.2.2.2.1 ≤ R.frames ∧ z.2.2.2.2.2 ≤ R.locals) (hcs : nc ≤ R.cells ∧ ns ≤ R.slots)
    (hr : ∀ (pc a : Nat) (r : Option xV) (lv : xL) (hp : xH), decode z.2.1 pc = .ok (x_rti a, 1) → z.2.2.2.1 = x_rtt a → (a = 3 → ∃ v : Int32, r = some (.inl (.int v)) ∧ (v = 0 ∨ v = 1)) → (a = 1 → ∃ v : Int32, r = some (.inl (.int v))) → (a = 2 → ∃ v : Int64, r = some (.inl (.long v))) → (a = 0 → r = none) → a < 4 → ret r hp → GG p l e R s m args below meth c Q D tc A z.2.2.1 OK nc ns pc lv r.toList hp)
    (hK : ∀ (pc : Nat) (lv : xL) (st : List xV) (hp : xH), K pc lv st hp → GG p l e R s m args below meth c Q D tc A z.2.2.1 OK nc ns pc lv st hp) :
    ∀ (n : Nat) (rest : List xI), rest <:+ code → ∀ (lv : xL) (st : List xV) (hp : xH), y_run sL xs l mth code cuts K ret n rest lv st hp → GG p l e R s m args below meth c Q D tc A z.2.2.1 OK nc ns (x_pc rest) lv st hp := by
  unfold y_okM at hok
  rw [Bool.and_eq_true] at hok
  obtain ⟨hall, hlink⟩ := hok
  intro n
  induction n with
  | zero => exact fun _ _ _ _ _ h => h.elim
  | succ n ih =>
    intro rest hsuf lv st hp h
    match rest, hsuf, h with
    | [], _, h => exact h.elim
    | en :: rest', hsuf, h =>
      have hen := List.all_eq_true.mp hall en (hsuf.subset List.mem_cons_self)
      unfold y_okE at hen
      rw [Bool.and_eq_true, decide_eq_true_eq] at hen
      obtain ⟨hd, hI⟩ := hen
      have hsuf' : rest' <:+ code := (List.suffix_cons _ _).trans hsuf
      have hlk := x_link_suf hsuf hlink
      unfold x_link at hlk
      rw [Bool.and_eq_true] at hlk
      have h : y_step sL xs l mth code ret (x_goP cuts K (y_run sL xs l mth code cuts K ret n)) en rest' lv st hp := h
      have hgo : ∀ (r : List xI), r <:+ code → ∀ (lv : xL) (st : List xV) (hp : xH), x_goP cuts K (y_run sL xs l mth code cuts K ret n) r lv st hp → GG p l e R s m args below meth c Q D tc A z.2.2.1 OK nc ns (x_pc r) lv st hp := by
        intro r hr9 lv st hp h9
        match r, hr9, h9 with
        | [], _, h9 => exact h9.elim
        | en' :: r', hr9, h9 =>
          unfold x_goP at h9
          cases hcut : x_cut cuts en'.1 with
          | some ks =>
            simp only [hcut] at h9
            exact o_keep (hK _ _ _ _ h9)
          | none =>
            simp only [hcut] at h9
            exact ih (en' :: r') hr9 lv st hp h9
      have hfall : ∀ (lv : xL) (st : List xV) (hp : xH), x_goP cuts K (y_run sL xs l mth code cuts K ret n) rest' lv st hp → GG p l e R s m args below meth c Q D tc A z.2.2.1 OK nc ns (en.1 + en.2.2.2.1) lv st hp := by
        intro lv st hp h9
        have h8 := hgo rest' hsuf' lv st hp h9
        cases rest' with
        | nil => exact h9.elim
        | cons en' r' =>
          have h7 := hlk.1
          simp only [Bool.and_eq_true] at h7
          have h6 := Nat.eq_of_beq_eq_true h7.1
          rw [h6]
          exact h8
      have hjump : ∀ (t : Nat) (lv : xL) (st : List xV) (hp : xH), x_goP cuts K (y_run sL xs l mth code cuts K ret n) (x_to t code) lv st hp → GG p l e R s m args below meth c Q D tc A z.2.2.1 OK nc ns t lv st hp := by
        intro t lv st hp h9
        have h8 := hgo (x_to t code) (x_to_suf t code) lv st hp h9
        cases hq : x_to t code with
        | nil => rw [hq] at h9; exact h9.elim
        | cons en' r' =>
          have h7 := x_to_pc t code en' r' hq
          rw [hq] at h8
          rw [← h7]
          exact h8
      obtain ⟨pc, op, i, len, a, b, d, val, ts⟩ := en
      by_cases h30 : op = 30
      · subst h30
        have hI : (decide (i = .iaload) && Nat.beq len 1) = true := hI
        rw [Bool.and_eq_true, decide_eq_true_eq] at hI
        obtain ⟨rfl, hl1⟩ := hI
        have hl1 := Nat.eq_of_beq_eq_true hl1
        subst hl1
        have h : y_o30 sL xs (x_goP cuts K (y_run sL xs l mth code cuts K ret n)) rest' lv st hp := h
        unfold y_o30 at h
        split at h
        · intro ad H locs ls ho hP hD hS hl
          have key := hfall lv _ hp h.2 ad H locs ls ho hP hD hS hl
          have e9 := hOK ad ho
          show W p l e R s m args below meth c H locs nc ns Q (F0 m pc ls (.int _ :: .ref (ad 99 0) :: _))
          rw [e9]
          exact va_sld hC.1 hC.2.1 hX hbl hbA hS h.1 hd key
        · exact h.elim
      by_cases h31 : op = 31
      · subst h31
        have hI : (decide (i = .arraylength) && Nat.beq len 1) = true := hI
        rw [Bool.and_eq_true, decide_eq_true_eq] at hI
        obtain ⟨rfl, hl1⟩ := hI
        have hl1 := Nat.eq_of_beq_eq_true hl1
        subst hl1
        have h : y_o31 sL (x_goP cuts K (y_run sL xs l mth code cuts K ret n)) rest' lv st hp := h
        unfold y_o31 at h
        split at h
        · intro ad H locs ls ho hP hD hS hl
          have key := hfall lv _ hp h ad H locs ls ho hP hD hS hl
          have e9 := hOK ad ho
          show W p l e R s m args below meth c H locs nc ns Q (F0 m pc ls (.ref (ad 99 0) :: _))
          rw [e9]
          exact va_slen hC.1 hC.2.1 hX hbl hbA hS hd key
        · exact h.elim
      have n30 : Nat.beq op 30 = false := by
        cases hb : Nat.beq op 30 with
        | false => rfl
        | true => exact absurd (Nat.eq_of_beq_eq_true hb) h30
      have n31 : Nat.beq op 31 = false := by
        cases hb : Nat.beq op 31 with
        | false => rfl
        | true => exact absurd (Nat.eq_of_beq_eq_true hb) h31
      have hI : x_okI mth z.1.cls z.2.2.2.2.1 z.2.2.2.2.2 z.2.2.1 z.2.2.2.1 (pc, op, i, len, a, b, d, val, ts) = true := by
        unfold y_okI at hI
        simp only [n30, n31] at hI
        exact hI
      have h : x_step l mth code ret (x_goP cuts K (y_run sL xs l mth code cuts K ret n)) (pc, op, i, len, a, b, d, val, ts) rest' lv st hp := by
        unfold y_step at h
        simp only [n30, n31] at h
        exact h
      match op, hI, h, hlk, hsuf with
      | 0, hI, h, _, _ => exact ss_0 hC hd hI hfall h
      | 1, hI, h, _, _ => exact ss_1 hC hd hI hfall h
      | 2, hI, h, _, _ => exact ss_2 hC hd hI hfall h
      | 3, hI, h, _, _ => exact ss_3 hC hd hI hfall h
      | 4, hI, h, _, _ => exact ss_4 hC hd hI hfall h
      | 5, hI, h, _, _ => exact ss_5 hC hd hI hfall h
      | 6, hI, h, _, _ => exact ss_6 hC hd hI hfall h
      | 7, hI, h, _, _ => exact ss_7 hC hd hI hfall hjump h
      | 8, hI, h, _, _ => exact ss_8 hC hd hI hfall hjump h
      | 9, hI, h, hlk, hsuf =>
        refine ss_9 hC hd hI hjump (fun en2 r hrest => ?_) h
        subst hrest
        have h7 := hlk.1
        simp only [Bool.and_eq_true] at h7
        have hp1 : pc + len = en2.1 := Nat.eq_of_beq_eq_true h7.1
        have h71 : Nat.beq en2.2.1 8 = true ∧ Nat.beq en2.2.2.2.2.1 a = true ∧ Nat.beq en2.2.2.2.2.2.1 b = true := by
          exact ⟨h7.2.1.1, h7.2.1.2, h7.2.2⟩
        have hen2 := List.all_eq_true.mp hall en2 (hsuf.subset (List.mem_cons_of_mem _ List.mem_cons_self))
        unfold y_okE at hen2
        rw [Bool.and_eq_true, decide_eq_true_eq] at hen2
        obtain ⟨pc2, op2, i2, len2, a2, b2, d2, val2, ts2⟩ := en2
        have e1 : op2 = 8 := Nat.eq_of_beq_eq_true h71.1
        have e2 : a2 = a := Nat.eq_of_beq_eq_true h71.2.1
        have e3 : b2 = b := Nat.eq_of_beq_eq_true h71.2.2
        subst e1; subst e2; subst e3
        have hlen1 : len = 1 := by
          have : x_q9 mth z.1.cls z.2.2.2.2.1 z.2.2.2.2.2 z.2.2.1 z.2.2.2.1 pc i len a2 b2 d val ts = true := hI
          unfold x_q9 at this
          simp only [Bool.and_eq_true, beq_iff_eq, decide_eq_true_eq] at this
          exact this.2
        subst hlen1
        have hp1 : pc + 1 = pc2 := hp1
        subst hp1
        have hI2 : x_q8 mth z.1.cls z.2.2.2.2.1 z.2.2.2.2.2 z.2.2.1 z.2.2.2.1 (pc + 1) i2 len2 a2 b2 d2 val2 ts2 = true := hen2.2
        have hd2 : decode z.2.1 (pc + 1) = .ok (i2, len2) := hen2.1
        unfold x_q8 at hI2
        split at hI2
        · simp only [Bool.and_eq_true, beq_iff_eq, decide_eq_true_eq] at hI2
          obtain ⟨⟨rfl, ht⟩, rfl⟩ := hI2
          refine ⟨⟨_, hd2, ht⟩, fun lv st hp h9 => ?_⟩
          have hsuf2 : r <:+ code := (List.suffix_cons _ _).trans ((List.suffix_cons _ _).trans hsuf)
          have h8 := hgo r hsuf2 lv st hp h9
          match r, hlk, h8, h9 with
          | [], _, _, h9 => exact h9.elim
          | en' :: r', hlk, h8, _ =>
            have h70 := hlk.2
            unfold x_link at h70
            simp only [Bool.and_eq_true] at h70
            have h6 := Nat.eq_of_beq_eq_true h70.1.1
            have h6 : pc + 1 + 3 = en'.1 := h6
            show GG p l e R s m args below meth c Q D tc A z.2.2.1 OK nc ns (pc + 1 + 3) lv st hp
            rw [h6]
            exact h8
        · cases hI2
      | 10, hI, h, _, _ => exact ss_10 hC hd hI hjump h
      | 11, hI, h, _, _ => exact ss_11 hC hd hI hfall h
      | 12, hI, h, _, _ => exact ss_12 hC hd hI hfall h
      | 13, hI, h, _, _ => exact ss_13 hC hd hI hfall h
      | 14, hI, h, _, _ => exact ss_14 hC hd hI hfall h
      | 15, hI, h, _, _ => exact ss_15 hC hd hI hfall h
      | 16, hI, h, _, _ => exact ss_16 hC hd hI hfall h
      | 17, hI, h, _, _ => exact ss_17 hC hd hI hfall hR hcs h
      | 18, hI, h, _, _ => exact ss_18 hC hd hI hfall hR hcs h
      | 19, hI, h, _, _ => exact ss_19 hC hd hI (hr pc) h
      | 20, hI, h, _, _ => exact ss_20 hC hd hI hjump h
      | 21, hI, h, _, _ => exact ss_21 hC hd hI hfall hR hcs h
      | 22, hI, h, _, _ => exact ss_22 hC hd hI hfall hR hcs h
      | 23, hI, h, _, _ => exact ss_23 hC hd hI hfall hR hcs h
      | 24, hI, h, _, _ => exact ss_24 hC hd hI hfall hR hcs h
      | _ + 25, hI, _, _, _ => cases hI
end YWALK
/-- what holds of a run that reads the script -/
def YR (sL : Nat) (xs : Nat → Int32) (l : Launch) (mth : Nat → xM) (code : List xI) (ret : Option xV → xH → Prop) (K : Nat → xL → List xV → xH → Prop) : Prop :=
  ∀ (cuts : List (Nat × List Nat)) (n t : Nat) (lv : xL) (st : List xV) (hp : xH), y_run sL xs l mth code cuts K ret n (x_to t code) lv st hp → K t lv st hp
