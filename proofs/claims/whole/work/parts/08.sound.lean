section XSND
variable {p : Program} {l : Launch} {e : Env} {R : Room} {s : State} {m : MethodId} {args : Array Value} {below : List Frame} {meth : Method} {c : Code} {Q : State → Prop} {D : va_G} {tc : Nat → Nat} {A : Nat → Prop} {nL : Nat} {OK : (Nat → Nat → Nat) → Prop} {own : String} {cc : ByteArray} {nc ns pc : Nat} {lv : xL} {st : List xV} {hp : xH}
variable {mth : Nat → xM} {code : List xI} {ret : Option xV → xH → Prop} {go : List xI → xL → List xV → xH → Prop} {rest : List xI} {i : Instr} {len a b d fr lo : Nat} {val : Value} {ts : List Nat} {rt : Option FieldType}

theorem ss_0 (hC : CC p s m args meth c D tc A nL own cc) (hd : decode cc pc = .ok (i, len)) (hI : x_okI mth own fr lo nL rt (pc, 0, i, len, a, b, d, val, ts) = true) (hg : ∀ (lv : xL) (st : List xV) (hp : xH), go rest lv st hp → GG p l e R s m args below meth c Q D tc A nL OK nc ns (pc + len) lv st hp) (h : x_step l mth code ret go (pc, 0, i, len, a, b, d, val, ts) rest lv st hp) : GG p l e R s m args below meth c Q D tc A nL OK nc ns pc lv st hp := by
  replace h : x_o0 l mth code ret go a b d val ts rest lv st hp := h
  unfold x_o0 at h
  replace hI : x_q0 mth own fr lo nL rt pc i len a b d val ts = true := hI
  unfold x_q0 at hI
  unfold x_okc at hI
  split at hI
  · simp only [Bool.and_eq_true, beq_iff_eq, decide_eq_true_eq] at hI
    obtain ⟨rfl, hv⟩ := hI
    exact o_iconst hC hd hv (hg _ _ _ h)
  · simp only [Bool.and_eq_true, beq_iff_eq, decide_eq_true_eq] at hI
    obtain ⟨rfl, hv⟩ := hI
    exact o_bipush hC hd hv (hg _ _ _ h)
  · simp only [Bool.and_eq_true, beq_iff_eq, decide_eq_true_eq] at hI
    obtain ⟨rfl, hv⟩ := hI
    exact o_sipush hC hd hv (hg _ _ _ h)
  · simp only [Bool.and_eq_true, beq_iff_eq, decide_eq_true_eq] at hI
    obtain ⟨rfl, hv⟩ := hI
    exact o_lconst hC hd hv (hg _ _ _ h)
  · simp only [Bool.and_eq_true, beq_iff_eq, decide_eq_true_eq] at hI
    obtain ⟨rfl, hv⟩ := hI
    exact o_ldc hC hd (x_fN_of hv _ List.mem_cons_self) (hg _ _ _ h)
  · simp only [Bool.and_eq_true, beq_iff_eq, decide_eq_true_eq] at hI
    obtain ⟨rfl, hv⟩ := hI
    exact o_ldc2 hC hd (x_fN_of hv _ List.mem_cons_self) (hg _ _ _ h)
  · cases hI
theorem ss_1 (hC : CC p s m args meth c D tc A nL own cc) (hd : decode cc pc = .ok (i, len)) (hI : x_okI mth own fr lo nL rt (pc, 1, i, len, a, b, d, val, ts) = true) (hg : ∀ (lv : xL) (st : List xV) (hp : xH), go rest lv st hp → GG p l e R s m args below meth c Q D tc A nL OK nc ns (pc + len) lv st hp) (h : x_step l mth code ret go (pc, 1, i, len, a, b, d, val, ts) rest lv st hp) : GG p l e R s m args below meth c Q D tc A nL OK nc ns pc lv st hp := by
  replace hI : x_q1 mth own fr lo nL rt pc i len a b d val ts = true := hI
  unfold x_q1 at hI
  replace h : x_o1 l mth code ret go a b d val ts rest lv st hp := h
  unfold x_o1 at h
  unfold x_okl at hI
  split at hI
  · simp only [Bool.and_eq_true, beq_iff_eq, decide_eq_true_eq] at hI
    obtain ⟨⟨rfl, rfl⟩, rfl⟩ := hI
    split at h <;> first | exact o_iload hC hd (by assumption) (hg _ _ _ h) | exact h.elim | contradiction | (exfalso; omega)
  · simp only [Bool.and_eq_true, beq_iff_eq, decide_eq_true_eq] at hI
    obtain ⟨⟨rfl, rfl⟩, rfl⟩ := hI
    split at h <;> first | exact o_iload_n hC hd rfl (by assumption) (hg _ _ _ h) | exact h.elim | contradiction | (exfalso; omega)
  · simp only [Bool.and_eq_true, beq_iff_eq, decide_eq_true_eq] at hI
    obtain ⟨⟨rfl, rfl⟩, rfl⟩ := hI
    split at h <;> first | exact o_lload hC hd (by assumption) (hg _ _ _ h) | exact h.elim | contradiction | (exfalso; omega)
  · simp only [Bool.and_eq_true, beq_iff_eq, decide_eq_true_eq] at hI
    obtain ⟨⟨rfl, rfl⟩, rfl⟩ := hI
    split at h <;> first | exact o_lload_n hC hd rfl (by assumption) (hg _ _ _ h) | exact h.elim | contradiction | (exfalso; omega)
  · simp only [Bool.and_eq_true, beq_iff_eq, decide_eq_true_eq] at hI
    obtain ⟨⟨rfl, rfl⟩, rfl⟩ := hI
    split at h <;> first | exact o_aload hC hd (by assumption) (hg _ _ _ h) | exact h.elim | contradiction | (exfalso; omega)
  · simp only [Bool.and_eq_true, beq_iff_eq, decide_eq_true_eq] at hI
    obtain ⟨⟨rfl, rfl⟩, rfl⟩ := hI
    split at h <;> first | exact o_aload_n hC hd rfl (by assumption) (hg _ _ _ h) | exact h.elim | contradiction | (exfalso; omega)
  · cases hI
theorem ss_2 (hC : CC p s m args meth c D tc A nL own cc) (hd : decode cc pc = .ok (i, len)) (hI : x_okI mth own fr lo nL rt (pc, 2, i, len, a, b, d, val, ts) = true) (hg : ∀ (lv : xL) (st : List xV) (hp : xH), go rest lv st hp → GG p l e R s m args below meth c Q D tc A nL OK nc ns (pc + len) lv st hp) (h : x_step l mth code ret go (pc, 2, i, len, a, b, d, val, ts) rest lv st hp) : GG p l e R s m args below meth c Q D tc A nL OK nc ns pc lv st hp := by
  replace hI : x_q2 mth own fr lo nL rt pc i len a b d val ts = true := hI
  unfold x_q2 at hI
  replace h : x_o2 l mth code ret go a b d val ts rest lv st hp := h
  unfold x_o2 at h
  unfold x_oks at hI
  split at hI
  · simp only [Bool.and_eq_true, beq_iff_eq, decide_eq_true_eq] at hI
    obtain ⟨⟨⟨rfl, rfl⟩, rfl⟩, hn⟩ := hI
    split at h <;> first | exact o_istore hC hd hn (hg _ _ _ h) | exact h.elim | contradiction | (exfalso; omega)
  · simp only [Bool.and_eq_true, beq_iff_eq, decide_eq_true_eq] at hI
    obtain ⟨⟨⟨rfl, rfl⟩, rfl⟩, hn⟩ := hI
    split at h <;> first | exact o_istore_n hC hd rfl hn (hg _ _ _ h) | exact h.elim | contradiction | (exfalso; omega)
  · simp only [Bool.and_eq_true, beq_iff_eq, decide_eq_true_eq] at hI
    obtain ⟨⟨⟨rfl, rfl⟩, rfl⟩, hn⟩ := hI
    split at h <;> first | exact o_lstore hC hd hn (hg _ _ _ h) | exact h.elim | contradiction | (exfalso; omega)
  · simp only [Bool.and_eq_true, beq_iff_eq, decide_eq_true_eq] at hI
    obtain ⟨⟨⟨rfl, rfl⟩, rfl⟩, hn⟩ := hI
    split at h <;> first | exact o_lstore_n hC hd rfl hn (hg _ _ _ h) | exact h.elim | contradiction | (exfalso; omega)
  · simp only [Bool.and_eq_true, beq_iff_eq, decide_eq_true_eq] at hI
    obtain ⟨⟨⟨rfl, rfl⟩, rfl⟩, hn⟩ := hI
    split at h <;> first | exact o_astore hC hd hn (hg _ _ _ h) | exact h.elim | contradiction | (exfalso; omega)
  · simp only [Bool.and_eq_true, beq_iff_eq, decide_eq_true_eq] at hI
    obtain ⟨⟨⟨rfl, rfl⟩, rfl⟩, hn⟩ := hI
    split at h <;> first | exact o_astore_n hC hd rfl hn (hg _ _ _ h) | exact h.elim | contradiction | (exfalso; omega)
  · cases hI
theorem ss_3 (hC : CC p s m args meth c D tc A nL own cc) (hd : decode cc pc = .ok (i, len)) (hI : x_okI mth own fr lo nL rt (pc, 3, i, len, a, b, d, val, ts) = true) (hg : ∀ (lv : xL) (st : List xV) (hp : xH), go rest lv st hp → GG p l e R s m args below meth c Q D tc A nL OK nc ns (pc + len) lv st hp) (h : x_step l mth code ret go (pc, 3, i, len, a, b, d, val, ts) rest lv st hp) : GG p l e R s m args below meth c Q D tc A nL OK nc ns pc lv st hp := by
  replace hI : x_q3 mth own fr lo nL rt pc i len a b d val ts = true := hI
  unfold x_q3 at hI
  simp only [Bool.and_eq_true, beq_iff_eq, decide_eq_true_eq] at hI
  obtain ⟨rfl, rfl⟩ := hI
  replace h : x_o3 l mth code ret go a b d val ts rest lv st hp := h
  unfold x_o3 at h
  split at h
  · match a, hd, h with
    | 0, hd, h => exact o_iadd hC hd (hg _ _ _ h)
    | 1, hd, h => exact o_isub hC hd (hg _ _ _ h)
    | 2, hd, h => exact o_imul hC hd (hg _ _ _ h)
    | 3, hd, h => exact o_iand hC hd (hg _ _ _ h)
    | 4, hd, h => exact o_ior hC hd (hg _ _ _ h)
    | 5, hd, h => exact o_ixor hC hd (hg _ _ _ h)
    | 6, hd, h => exact o_ishl hC hd (hg _ _ _ h)
    | 7, hd, h => exact o_ishr hC hd (hg _ _ _ h)
    | _ + 8, hd, h => exact o_iushr hC hd (hg _ _ _ h)
  · exact h.elim
theorem ss_4 (hC : CC p s m args meth c D tc A nL own cc) (hd : decode cc pc = .ok (i, len)) (hI : x_okI mth own fr lo nL rt (pc, 4, i, len, a, b, d, val, ts) = true) (hg : ∀ (lv : xL) (st : List xV) (hp : xH), go rest lv st hp → GG p l e R s m args below meth c Q D tc A nL OK nc ns (pc + len) lv st hp) (h : x_step l mth code ret go (pc, 4, i, len, a, b, d, val, ts) rest lv st hp) : GG p l e R s m args below meth c Q D tc A nL OK nc ns pc lv st hp := by
  replace hI : x_q4 mth own fr lo nL rt pc i len a b d val ts = true := hI
  unfold x_q4 at hI
  simp only [Bool.and_eq_true, beq_iff_eq, decide_eq_true_eq] at hI
  obtain ⟨rfl, rfl⟩ := hI
  replace h : x_o4 l mth code ret go a b d val ts rest lv st hp := h
  unfold x_o4 at h
  split at h
  · match a, hd, h with
    | 0, hd, h => exact o_ladd hC hd (hg _ _ _ h)
    | 1, hd, h => exact o_lsub hC hd (hg _ _ _ h)
    | _ + 2, hd, h => exact o_lmul hC hd (hg _ _ _ h)
  · exact h.elim
theorem ss_5 (hC : CC p s m args meth c D tc A nL own cc) (hd : decode cc pc = .ok (i, len)) (hI : x_okI mth own fr lo nL rt (pc, 5, i, len, a, b, d, val, ts) = true) (hg : ∀ (lv : xL) (st : List xV) (hp : xH), go rest lv st hp → GG p l e R s m args below meth c Q D tc A nL OK nc ns (pc + len) lv st hp) (h : x_step l mth code ret go (pc, 5, i, len, a, b, d, val, ts) rest lv st hp) : GG p l e R s m args below meth c Q D tc A nL OK nc ns pc lv st hp := by
  replace hI : x_q5 mth own fr lo nL rt pc i len a b d val ts = true := hI
  unfold x_q5 at hI
  simp only [Bool.and_eq_true, beq_iff_eq, decide_eq_true_eq] at hI
  obtain ⟨⟨rfl, rfl⟩, h4⟩ := hI
  replace h : x_o5 l mth code ret go a b d val ts rest lv st hp := h
  unfold x_o5 at h
  split at h
  · exact o_idiv hC hd h.1 (hg _ _ _ h.2)
  · exact o_irem hC hd h.1 (hg _ _ _ h.2)
  · exact o_ldiv hC hd h.1 (hg _ _ _ h.2)
  · exact o_lrem hC hd h.1 (hg _ _ _ h.2)
  · exact h.elim
theorem ss_6 (hC : CC p s m args meth c D tc A nL own cc) (hd : decode cc pc = .ok (i, len)) (hI : x_okI mth own fr lo nL rt (pc, 6, i, len, a, b, d, val, ts) = true) (hg : ∀ (lv : xL) (st : List xV) (hp : xH), go rest lv st hp → GG p l e R s m args below meth c Q D tc A nL OK nc ns (pc + len) lv st hp) (h : x_step l mth code ret go (pc, 6, i, len, a, b, d, val, ts) rest lv st hp) : GG p l e R s m args below meth c Q D tc A nL OK nc ns pc lv st hp := by
  replace hI : x_q6 mth own fr lo nL rt pc i len a b d val ts = true := hI
  unfold x_q6 at hI
  simp only [Bool.and_eq_true, beq_iff_eq, decide_eq_true_eq] at hI
  obtain ⟨⟨rfl, rfl⟩, h4⟩ := hI
  replace h : x_o6 l mth code ret go a b d val ts rest lv st hp := h
  unfold x_o6 at h
  split at h
  · exact o_i2l hC hd (hg _ _ _ h)
  · exact o_l2i hC hd (hg _ _ _ h)
  · exact o_lneg hC hd (hg _ _ _ h)
  · exact h.elim

theorem ss_7 (hC : CC p s m args meth c D tc A nL own cc) (hd : decode cc pc = .ok (i, len)) (hI : x_okI mth own fr lo nL rt (pc, 7, i, len, a, b, d, val, ts) = true) (hg : ∀ (lv : xL) (st : List xV) (hp : xH), go rest lv st hp → GG p l e R s m args below meth c Q D tc A nL OK nc ns (pc + len) lv st hp) (hj : ∀ (t : Nat) (lv : xL) (st : List xV) (hp : xH), go (x_to t code) lv st hp → GG p l e R s m args below meth c Q D tc A nL OK nc ns t lv st hp) (h : x_step l mth code ret go (pc, 7, i, len, a, b, d, val, ts) rest lv st hp) : GG p l e R s m args below meth c Q D tc A nL OK nc ns pc lv st hp := by
  replace hI : x_q7 mth own fr lo nL rt pc i len a b d val ts = true := hI
  unfold x_q7 at hI
  replace h : x_o7 l mth code ret go a b d val ts rest lv st hp := h
  unfold x_o7 at h
  split at hI
  · simp only [Bool.and_eq_true, beq_iff_eq, decide_eq_true_eq] at hI
    obtain ⟨⟨rfl, ht⟩, rfl⟩ := hI
    split at h
    · match a, hd, h with
      | 0, hd, h => exact o_icmp_eq hC hd ht (fun q => hj _ _ _ _ (h.1 q)) (fun q => hg _ _ _ (h.2 q))
      | 1, hd, h => exact o_icmp_ne hC hd ht (fun q => hj _ _ _ _ (h.1 q)) (fun q => hg _ _ _ (h.2 q))
      | 2, hd, h => exact o_icmp_lt hC hd ht (fun q => hj _ _ _ _ (h.1 q)) (fun q => hg _ _ _ (h.2 q))
      | 3, hd, h => exact o_icmp_ge hC hd ht (fun q => hj _ _ _ _ (h.1 q)) (fun q => hg _ _ _ (h.2 q))
      | 4, hd, h => exact o_icmp_gt hC hd ht (fun q => hj _ _ _ _ (h.1 q)) (fun q => hg _ _ _ (h.2 q))
      | _ + 5, hd, h => exact o_icmp_le hC hd ht (fun q => hj _ _ _ _ (h.1 q)) (fun q => hg _ _ _ (h.2 q))
    · exact h.elim
  · cases hI

theorem ss_8 (hC : CC p s m args meth c D tc A nL own cc) (hd : decode cc pc = .ok (i, len)) (hI : x_okI mth own fr lo nL rt (pc, 8, i, len, a, b, d, val, ts) = true) (hg : ∀ (lv : xL) (st : List xV) (hp : xH), go rest lv st hp → GG p l e R s m args below meth c Q D tc A nL OK nc ns (pc + len) lv st hp) (hj : ∀ (t : Nat) (lv : xL) (st : List xV) (hp : xH), go (x_to t code) lv st hp → GG p l e R s m args below meth c Q D tc A nL OK nc ns t lv st hp) (h : x_step l mth code ret go (pc, 8, i, len, a, b, d, val, ts) rest lv st hp) : GG p l e R s m args below meth c Q D tc A nL OK nc ns pc lv st hp := by
  replace hI : x_q8 mth own fr lo nL rt pc i len a b d val ts = true := hI
  unfold x_q8 at hI
  replace h : x_o8 l mth code ret go a b d val ts rest lv st hp := h
  unfold x_o8 at h
  split at hI
  · simp only [Bool.and_eq_true, beq_iff_eq, decide_eq_true_eq] at hI
    obtain ⟨⟨rfl, ht⟩, rfl⟩ := hI
    split at h
    · match a, hd, h with
      | 0, hd, h => exact o_if_eq hC hd ht (fun q => hj _ _ _ _ (h.1 q)) (fun q => hg _ _ _ (h.2 q))
      | 1, hd, h => exact o_if_ne hC hd ht (fun q => hj _ _ _ _ (h.1 q)) (fun q => hg _ _ _ (h.2 q))
      | 2, hd, h => exact o_if_lt hC hd ht (fun q => hj _ _ _ _ (h.1 q)) (fun q => hg _ _ _ (h.2 q))
      | 3, hd, h => exact o_if_ge hC hd ht (fun q => hj _ _ _ _ (h.1 q)) (fun q => hg _ _ _ (h.2 q))
      | 4, hd, h => exact o_if_gt hC hd ht (fun q => hj _ _ _ _ (h.1 q)) (fun q => hg _ _ _ (h.2 q))
      | _ + 5, hd, h => exact o_if_le hC hd ht (fun q => hj _ _ _ _ (h.1 q)) (fun q => hg _ _ _ (h.2 q))
    · exact h.elim
  · cases hI

theorem ss_9 (hC : CC p s m args meth c D tc A nL own cc) (hd : decode cc pc = .ok (i, len)) (hI : x_okI mth own fr lo nL rt (pc, 9, i, len, a, b, d, val, ts) = true) (hj : ∀ (t : Nat) (lv : xL) (st : List xV) (hp : xH), go (x_to t code) lv st hp → GG p l e R s m args below meth c Q D tc A nL OK nc ns t lv st hp) (hn : ∀ (en : xI) (r : List xI), rest = en :: r → (∃ off : Int, decode cc (pc + 1) = .ok (.ifCond (x_cj a) off, 3) ∧ ((pc + 1 : Nat) : Int) + off = (b : Int)) ∧ ∀ (lv : xL) (st : List xV) (hp : xH), go r lv st hp → GG p l e R s m args below meth c Q D tc A nL OK nc ns (pc + 1 + 3) lv st hp) (h : x_step l mth code ret go (pc, 9, i, len, a, b, d, val, ts) rest lv st hp) : GG p l e R s m args below meth c Q D tc A nL OK nc ns pc lv st hp := by
  replace hI : x_q9 mth own fr lo nL rt pc i len a b d val ts = true := hI
  unfold x_q9 at hI
  simp only [Bool.and_eq_true, beq_iff_eq, decide_eq_true_eq] at hI
  obtain ⟨rfl, rfl⟩ := hI
  replace h : x_o9 l mth code ret go a b d val ts rest lv st hp := h
  unfold x_o9 at h
  split at h
  · obtain ⟨⟨off, hd2, ht⟩, hg⟩ := hn _ _ rfl
    match a, hd2, h with
    | 0, hd2, h => exact o_lcmp_eq hC hd hd2 ht (fun q => hj _ _ _ _ (h.1 q)) (fun q => hg _ _ _ (h.2 q))
    | 1, hd2, h => exact o_lcmp_ne hC hd hd2 ht (fun q => hj _ _ _ _ (h.1 q)) (fun q => hg _ _ _ (h.2 q))
    | 2, hd2, h => exact o_lcmp_lt hC hd hd2 ht (fun q => hj _ _ _ _ (h.1 q)) (fun q => hg _ _ _ (h.2 q))
    | 3, hd2, h => exact o_lcmp_ge hC hd hd2 ht (fun q => hj _ _ _ _ (h.1 q)) (fun q => hg _ _ _ (h.2 q))
    | 4, hd2, h => exact o_lcmp_gt hC hd hd2 ht (fun q => hj _ _ _ _ (h.1 q)) (fun q => hg _ _ _ (h.2 q))
    | _ + 5, hd2, h => exact o_lcmp_le hC hd hd2 ht (fun q => hj _ _ _ _ (h.1 q)) (fun q => hg _ _ _ (h.2 q))
  · exact h.elim
theorem ss_10 (hC : CC p s m args meth c D tc A nL own cc) (hd : decode cc pc = .ok (i, len)) (hI : x_okI mth own fr lo nL rt (pc, 10, i, len, a, b, d, val, ts) = true) (hj : ∀ (t : Nat) (lv : xL) (st : List xV) (hp : xH), go (x_to t code) lv st hp → GG p l e R s m args below meth c Q D tc A nL OK nc ns t lv st hp) (h : x_step l mth code ret go (pc, 10, i, len, a, b, d, val, ts) rest lv st hp) : GG p l e R s m args below meth c Q D tc A nL OK nc ns pc lv st hp := by
  replace hI : x_q10 mth own fr lo nL rt pc i len a b d val ts = true := hI
  unfold x_q10 at hI
  replace h : x_o10 l mth code ret go a b d val ts rest lv st hp := h
  unfold x_o10 at h
  split at hI
  · simp only [Bool.and_eq_true, beq_iff_eq, decide_eq_true_eq] at hI
    obtain ⟨ht, rfl⟩ := hI
    exact o_goto hC hd ht (hj _ _ _ _ h)
  · cases hI
theorem x_okf_of {own : String} {ci k idx : Nat} {fin : Bool} (h : x_okf own ci k idx fin = true) : ∃ (C : String) (T : u_T) (N : Nat), x_cls[ci]? = some (C, T, N) ∧ k < N ∧ Cond.fieldLink own idx (T k).1 (T k).2.1 (T k).2.2.1 ∈ lw_g ∧ (fin = true → (T k).2.2.2 = false) := by
  unfold x_okf at h
  split at h
  · rename_i q hq
    simp only [Bool.and_eq_true, decide_eq_true_eq] at h
    refine ⟨q.1, q.2.1, q.2.2, hq, h.1.1, x_fN_of h.1.2 _ List.mem_cons_self, fun hf => ?_⟩
    have := h.2
    rw [hf] at this
    simpa using this
  · cases h
theorem ss_11 (hC : CC p s m args meth c D tc A nL own cc) (hd : decode cc pc = .ok (i, len)) (hI : x_okI mth own fr lo nL rt (pc, 11, i, len, a, b, d, val, ts) = true) (hg : ∀ (lv : xL) (st : List xV) (hp : xH), go rest lv st hp → GG p l e R s m args below meth c Q D tc A nL OK nc ns (pc + len) lv st hp) (h : x_step l mth code ret go (pc, 11, i, len, a, b, d, val, ts) rest lv st hp) : GG p l e R s m args below meth c Q D tc A nL OK nc ns pc lv st hp := by
  replace hI : x_q11 mth own fr lo nL rt pc i len a b d val ts = true := hI
  unfold x_q11 at hI
  replace h : x_o11 l mth code ret go a b d val ts rest lv st hp := h
  unfold x_o11 at h
  split at hI
  · simp only [Bool.and_eq_true, beq_iff_eq, decide_eq_true_eq] at hI
    obtain ⟨hf, rfl⟩ := hI
    obtain ⟨C, T, N, h1, h2, h3, -⟩ := x_okf_of hf
    split at h
    · split at h
      · split at h
        · rename_i hb9 hv9
          have e9 := Nat.eq_of_beq_eq_true hb9
          subst e9
          exact o_get hC h1 h2 h3 (by assumption) hv9 hd (hg _ _ _ h)
        · exact h.elim
      · exact h.elim
    · exact h.elim
  · cases hI
theorem x_fit_i {ty : FieldType} (h : x_tyk 0 ty = true) (x : Int32) : x_fits ty (.inl (.int x)) := by
  intro ad
  unfold x_tyk at h
  split at h
  · exact ⟨rfl, rfl⟩
  · rename_i e; exact absurd e (by decide)
  · rename_i e; exact absurd e (by decide)
  · cases h
theorem x_fit_l {ty : FieldType} (h : x_tyk 1 ty = true) (x : Int64) : x_fits ty (.inl (.long x)) := by
  intro ad
  unfold x_tyk at h
  split at h
  · rename_i e; exact absurd e (by decide)
  · exact ⟨rfl, rfl⟩
  · rename_i e; exact absurd e (by decide)
  · cases h
theorem x_fit_z {ty : FieldType} (h : x_tyk 2 ty = true) {x : Int32} (hx : x = 0 ∨ x = 1) : x_fits ty (.inl (.int x)) := by
  intro ad
  unfold x_tyk at h
  split at h
  · rename_i e; exact absurd e (by decide)
  · rename_i e; exact absurd e (by decide)
  · rcases hx with rfl | rfl <;> exact ⟨(by decide : narrow .boolean (.int _) = .int _), (by decide : fits .boolean (.int _) = true)⟩
  · cases h
theorem ss_12 (hC : CC p s m args meth c D tc A nL own cc) (hd : decode cc pc = .ok (i, len)) (hI : x_okI mth own fr lo nL rt (pc, 12, i, len, a, b, d, val, ts) = true) (hg : ∀ (lv : xL) (st : List xV) (hp : xH), go rest lv st hp → GG p l e R s m args below meth c Q D tc A nL OK nc ns (pc + len) lv st hp) (h : x_step l mth code ret go (pc, 12, i, len, a, b, d, val, ts) rest lv st hp) : GG p l e R s m args below meth c Q D tc A nL OK nc ns pc lv st hp := by
  replace hI : x_q12 mth own fr lo nL rt pc i len a b d val ts = true := hI
  unfold x_q12 at hI
  replace h : x_o12 l mth code ret go a b d val ts rest lv st hp := h
  unfold x_o12 at h
  split at hI
  · simp only [Bool.and_eq_true, beq_iff_eq, decide_eq_true_eq] at hI
    obtain ⟨⟨hf, hty⟩, rfl⟩ := hI
    obtain ⟨C, T, N, h1, h2, h3, h5⟩ := x_okf_of hf
    split at h
    · split at h
      · rename_i hg9
        split at h
        · rename_i hb9 hl9
          have e9 := Nat.eq_of_beq_eq_true hb9
          subst e9
          exact o_put hC h1 h2 (h5 rfl) h3 hg9 (Nat.le_of_ble_eq_true hl9) (x_fit_i hty _) hd (hg _ _ _ h)
        · rename_i hb9 hl9
          have e9 := Nat.eq_of_beq_eq_true hb9
          subst e9
          exact o_put hC h1 h2 (h5 rfl) h3 hg9 (Nat.le_of_ble_eq_true hl9) (x_fit_l hty _) hd (hg _ _ _ h)
        · rename_i hb9 hl9
          have e9 := Nat.eq_of_beq_eq_true hb9
          subst e9
          exact o_put hC h1 h2 (h5 rfl) h3 hg9 (Nat.le_of_ble_eq_true hl9) (x_fit_z hty h.1) hd (hg _ _ _ h.2)
        · exact h.elim
      · exact h.elim
    · exact h.elim
  · cases hI
theorem ss_13 (hC : CC p s m args meth c D tc A nL own cc) (hd : decode cc pc = .ok (i, len)) (hI : x_okI mth own fr lo nL rt (pc, 13, i, len, a, b, d, val, ts) = true) (hg : ∀ (lv : xL) (st : List xV) (hp : xH), go rest lv st hp → GG p l e R s m args below meth c Q D tc A nL OK nc ns (pc + len) lv st hp) (h : x_step l mth code ret go (pc, 13, i, len, a, b, d, val, ts) rest lv st hp) : GG p l e R s m args below meth c Q D tc A nL OK nc ns pc lv st hp := by
  replace hI : x_q13 mth own fr lo nL rt pc i len a b d val ts = true := hI
  unfold x_q13 at hI
  simp only [Bool.and_eq_true, beq_iff_eq, decide_eq_true_eq] at hI
  obtain ⟨⟨rfl, rfl⟩, h4⟩ := hI
  replace h : x_o13 l mth code ret go a b d val ts rest lv st hp := h
  unfold x_o13 at h
  split at h
  · split at h
    · exact o_iald hC (by assumption) h.1 hd (hg _ _ _ h.2)
    · exact o_rald hC (by assumption) h.1 h.2.1 hd (hg _ _ _ h.2.2)
    · exact o_lald hC (by assumption) h.1 hd (hg _ _ _ h.2)
    · exact o_zald hC (by assumption) h.1 hd (hg _ _ _ h.2)
    · exact o_aald hC (by assumption) h.1 hd (hg _ _ _ h.2)
    · exact h.elim
  · exact h.elim
theorem ss_14 (hC : CC p s m args meth c D tc A nL own cc) (hd : decode cc pc = .ok (i, len)) (hI : x_okI mth own fr lo nL rt (pc, 14, i, len, a, b, d, val, ts) = true) (hg : ∀ (lv : xL) (st : List xV) (hp : xH), go rest lv st hp → GG p l e R s m args below meth c Q D tc A nL OK nc ns (pc + len) lv st hp) (h : x_step l mth code ret go (pc, 14, i, len, a, b, d, val, ts) rest lv st hp) : GG p l e R s m args below meth c Q D tc A nL OK nc ns pc lv st hp := by
  replace hI : x_q14 mth own fr lo nL rt pc i len a b d val ts = true := hI
  unfold x_q14 at hI
  simp only [Bool.and_eq_true, beq_iff_eq, decide_eq_true_eq] at hI
  obtain ⟨⟨rfl, rfl⟩, h4⟩ := hI
  replace h : x_o14 l mth code ret go a b d val ts rest lv st hp := h
  unfold x_o14 at h
  split at h
  · split at h
    · exact o_iast hC (by assumption) h.1 hd (hg _ _ _ h.2)
    · exact o_rast hC (by assumption) h.1 h.2.1 hd (hg _ _ _ h.2.2)
    · exact o_last hC (by assumption) h.1 hd (hg _ _ _ h.2)
    · refine o_zast hC (by assumption) h.1 ?_ hd (hg _ _ _ h.2.2)
      rcases h.2.1 with rfl | rfl <;> decide
    · exact h.elim
  · exact h.elim
theorem ss_15 (hC : CC p s m args meth c D tc A nL own cc) (hd : decode cc pc = .ok (i, len)) (hI : x_okI mth own fr lo nL rt (pc, 15, i, len, a, b, d, val, ts) = true) (hg : ∀ (lv : xL) (st : List xV) (hp : xH), go rest lv st hp → GG p l e R s m args below meth c Q D tc A nL OK nc ns (pc + len) lv st hp) (h : x_step l mth code ret go (pc, 15, i, len, a, b, d, val, ts) rest lv st hp) : GG p l e R s m args below meth c Q D tc A nL OK nc ns pc lv st hp := by
  replace hI : x_q15 mth own fr lo nL rt pc i len a b d val ts = true := hI
  unfold x_q15 at hI
  simp only [Bool.and_eq_true, beq_iff_eq, decide_eq_true_eq] at hI
  obtain ⟨⟨rfl, rfl⟩, h4⟩ := hI
  replace h : x_o15 l mth code ret go a b d val ts rest lv st hp := h
  unfold x_o15 at h
  split at h
  · split at h
    · exact o_dup hC hd (by assumption) (hg _ _ _ h)
    · exact h.elim
  · split at h
    · exact o_dup2 hC hd (by assumption) (by assumption) (hg _ _ _ h)
    · exact h.elim
  · split at h
    · exact o_pop hC hd (by assumption) (hg _ _ _ h)
    · exact h.elim
  · exact h.elim
theorem ss_16 (hC : CC p s m args meth c D tc A nL own cc) (hd : decode cc pc = .ok (i, len)) (hI : x_okI mth own fr lo nL rt (pc, 16, i, len, a, b, d, val, ts) = true) (hg : ∀ (lv : xL) (st : List xV) (hp : xH), go rest lv st hp → GG p l e R s m args below meth c Q D tc A nL OK nc ns (pc + len) lv st hp) (h : x_step l mth code ret go (pc, 16, i, len, a, b, d, val, ts) rest lv st hp) : GG p l e R s m args below meth c Q D tc A nL OK nc ns pc lv st hp := by
  replace hI : x_q16 mth own fr lo nL rt pc i len a b d val ts = true := hI
  unfold x_q16 at hI
  replace h : x_o16 l mth code ret go a b d val ts rest lv st hp := h
  unfold x_o16 at h
  split at hI
  · simp only [Bool.and_eq_true, beq_iff_eq, decide_eq_true_eq] at hI
    obtain ⟨⟨⟨rfl, rfl⟩, hy⟩, hn⟩ := hI
    split at h
    · rename_i _ _ _ _ hx9 e9
      cases e9
      exact o_iinc hC hd hy hn hx9 (hg _ _ _ h)
    · exact h.elim
  · cases hI
theorem x_cs_eq : ∀ st : List xV, (st.map x_cat).sum = x_cs st
  | [] => rfl
  | v :: vs => by
    rw [List.map_cons, List.sum_cons, x_cs_eq vs]
    rfl
theorem x_okd_of {y : MethodName} {n : Nat} (h : x_okd y n = true) : y.cls ≠ "java/lang/invoke/MethodHandle" ∧ y.cls ≠ "java/lang/invoke/VarHandle" ∧ (parseMethodDescriptor y.desc).map (fun d => d.parameters.length) = some n := by
  unfold x_okd at h
  simp only [Bool.and_eq_true, decide_eq_true_eq] at h
  exact ⟨h.1.1, h.1.2, h.2⟩
theorem x_okr_of {fr lo : Nat} {z : xM} (h : x_okr fr lo z = true) {R : Room} (hR : fr ≤ R.frames ∧ lo ≤ R.locals) : z.2.2.2.2.1 + 1 ≤ R.frames ∧ 8 + (z.2.2.1 + 11) + z.2.2.2.2.2 ≤ R.locals := by
  unfold x_okr at h
  simp only [Bool.and_eq_true, decide_eq_true_eq] at h
  exact ⟨Nat.le_trans h.1 hR.1, Nat.le_trans h.2 hR.2⟩
theorem ss_17 (hC : CC p s m args meth c D tc A nL own cc) (hd : decode cc pc = .ok (i, len)) (hI : x_okI mth own fr lo nL rt (pc, 17, i, len, a, b, d, val, ts) = true) (hg : ∀ (lv : xL) (st : List xV) (hp : xH), go rest lv st hp → GG p l e R s m args below meth c Q D tc A nL OK nc ns (pc + len) lv st hp) (hR : fr ≤ R.frames ∧ lo ≤ R.locals) (hcs : nc ≤ R.cells ∧ ns ≤ R.slots) (h : x_step l mth code ret go (pc, 17, i, len, a, b, d, val, ts) rest lv st hp) : GG p l e R s m args below meth c Q D tc A nL OK nc ns pc lv st hp := by
  replace hI : x_q17 mth own fr lo nL rt pc i len a b d val ts = true := hI
  unfold x_q17 at hI
  replace h : x_o17 l mth code ret go a b d val ts rest lv st hp := h
  unfold x_o17 at h
  split at hI
  · simp only [Bool.and_eq_true, beq_iff_eq, decide_eq_true_eq] at hI
    obtain ⟨⟨⟨⟨rfl, hw⟩, hdd⟩, hr⟩, hcl⟩ := hI
    split at h
    · rename_i g st' hst
      split at h
      · rename_i ci fs hgx
        split at h
        · rename_i hb1 hb2
          have e9 := Nat.eq_of_beq_eq_true hb1
          subst e9
          obtain ⟨fp, P, hev, h⟩ := h
          obtain ⟨q, hq, hq2⟩ : ∃ q, x_cls[ci]? = some q ∧ q.1 = (mth a).1.cls := by
            cases hz : x_cls[ci]? with
            | none => rw [hz] at hcl; cases hcl
            | some q => rw [hz] at hcl; exact ⟨q, rfl, Option.some.inj hcl⟩
          have hlen : b < st.length := by
            have : (st.drop b).length = st'.length + 1 := by rw [hst]; rfl
            rw [List.length_drop] at this
            omega
          have hn : ((st.take b).reverse).length = b := by
            rw [List.length_reverse, List.length_take]
            omega
          have key := o_callV (z := mth a) (as := (st.take b).reverse) (st := st') hC hev hq hgx hq2 (fun w hw9 => by
            rcases List.mem_append.mp hw9 with h9 | h9
            · exact x_fN_of hw w (by
                rcases List.mem_cons.mp h9 with rfl | h9
                · simp
                rcases List.mem_cons.mp h9 with rfl | h9
                · simp
                rcases List.mem_cons.mp h9 with rfl | h9
                · simp
                rcases List.mem_cons.mp h9 with rfl | h9
                · simp
                · cases h9)
            · rcases List.mem_cons.mp h9 with rfl | h9
              · exact x_fN_of hw _ (by simp)
              · exact h9) (by rw [hn]; exact x_okd_of hdd) (x_okr_of hr hR) (by rw [x_cs_eq]; exact Nat.le_of_ble_eq_true hb2) hcs hd (fun r hc' hP9 hs9 => hg _ _ _ (h r hc' hP9 hs9))
          rw [List.reverse_reverse, ← hst, List.take_append_drop] at key
          exact key
        · exact h.elim
      · exact h.elim
    · exact h.elim
  · cases hI
theorem ss_18 (hC : CC p s m args meth c D tc A nL own cc) (hd : decode cc pc = .ok (i, len)) (hI : x_okI mth own fr lo nL rt (pc, 18, i, len, a, b, d, val, ts) = true) (hg : ∀ (lv : xL) (st : List xV) (hp : xH), go rest lv st hp → GG p l e R s m args below meth c Q D tc A nL OK nc ns (pc + len) lv st hp) (hR : fr ≤ R.frames ∧ lo ≤ R.locals) (hcs : nc ≤ R.cells ∧ ns ≤ R.slots) (h : x_step l mth code ret go (pc, 18, i, len, a, b, d, val, ts) rest lv st hp) : GG p l e R s m args below meth c Q D tc A nL OK nc ns pc lv st hp := by
  replace hI : x_q18 mth own fr lo nL rt pc i len a b d val ts = true := hI
  unfold x_q18 at hI
  replace h : x_o18 l mth code ret go a b d val ts rest lv st hp := h
  unfold x_o18 at h
  split at hI
  · simp only [Bool.and_eq_true, beq_iff_eq, decide_eq_true_eq] at hI
    obtain ⟨⟨⟨⟨rfl, hw⟩, hdd⟩, hr⟩, hcl⟩ := hI
    split at h
    · rename_i hb1 hb2
      obtain ⟨fp, P, hev, h⟩ := h
      have hlen : b ≤ st.length := Nat.le_of_ble_eq_true hb1
      have hn : ((st.take b).reverse).length = b := by
        rw [List.length_reverse, List.length_take]
        omega
      have key := o_callS (z := mth a) (as := (st.take b).reverse) (st := st.drop b) hC hev hcl (fun w hw9 => by
        rcases List.mem_append.mp hw9 with h9 | h9
        · exact x_fN_of hw w (by
            rcases List.mem_cons.mp h9 with rfl | h9
            · simp
            rcases List.mem_cons.mp h9 with rfl | h9
            · simp
            rcases List.mem_cons.mp h9 with rfl | h9
            · simp
            · cases h9)
        · rcases List.mem_cons.mp h9 with rfl | h9
          · exact x_fN_of hw _ (by simp)
          · exact h9) (by rw [hn]; exact x_okd_of hdd) (x_okr_of hr hR) (by rw [x_cs_eq]; exact Nat.le_of_ble_eq_true hb2) hcs hd (fun r hc' hP9 hs9 => hg _ _ _ (h r hc' hP9 hs9))
      rw [List.reverse_reverse, List.take_append_drop] at key
      exact key
    · exact h.elim
  · cases hI

theorem ss_19 (hC : CC p s m args meth c D tc A nL own cc) (hd : decode cc pc = .ok (i, len)) (hI : x_okI mth own fr lo nL rt (pc, 19, i, len, a, b, d, val, ts) = true) (hr : ∀ (a : Nat) (r : Option xV) (lv : xL) (hp : xH), decode cc pc = .ok (x_rti a, 1) → rt = x_rtt a → (a = 3 → ∃ v : Int32, r = some (.inl (.int v)) ∧ (v = 0 ∨ v = 1)) → (a = 1 → ∃ v : Int32, r = some (.inl (.int v))) → (a = 2 → ∃ v : Int64, r = some (.inl (.long v))) → (a = 0 → r = none) → a < 4 → ret r hp → GG p l e R s m args below meth c Q D tc A nL OK nc ns pc lv r.toList hp) (h : x_step l mth code ret go (pc, 19, i, len, a, b, d, val, ts) rest lv st hp) : GG p l e R s m args below meth c Q D tc A nL OK nc ns pc lv st hp := by
  replace hI : x_q19 mth own fr lo nL rt pc i len a b d val ts = true := hI
  unfold x_q19 at hI
  simp only [Bool.and_eq_true, beq_iff_eq, decide_eq_true_eq] at hI
  obtain ⟨⟨⟨rfl, rfl⟩, h4⟩, hrt⟩ := hI
  replace h : x_o19 l mth code ret go a b d val ts rest lv st hp := h
  unfold x_o19 at h
  split at h
  · exact hr 0 none lv hp hd hrt (fun q => absurd q (by decide)) (fun q => absurd q (by decide)) (fun q => absurd q (by decide)) (fun _ => rfl) (by decide) h
  · exact hr 1 (some (.inl (.int _))) lv hp hd hrt (fun q => absurd q (by decide)) (fun _ => ⟨_, rfl⟩) (fun q => absurd q (by decide)) (fun q => absurd q (by decide)) (by decide) h
  · exact hr 2 (some (.inl (.long _))) lv hp hd hrt (fun q => absurd q (by decide)) (fun q => absurd q (by decide)) (fun _ => ⟨_, rfl⟩) (fun q => absurd q (by decide)) (by decide) h
  · exact hr 3 (some (.inl (.int _))) lv hp hd hrt (fun _ => ⟨_, rfl, h.1⟩) (fun q => absurd q (by decide)) (fun q => absurd q (by decide)) (fun q => absurd q (by decide)) (by decide) h.2
  · exact h.elim
theorem x_tsw_at {x : Int32} {P : Nat → Prop} : ∀ {ts : List Nat} {j k t : Nat}, x_tsw x P j ts → ts[k]? = some t → x.toInt = ((j + k : Nat) : Int) → P t
  | [], j, k, t, _, h, _ => by cases h
  | t0 :: ts, j, 0, t, h, e, hx => by
    cases e
    exact h.1 (by rw [hx]; rfl)
  | t0 :: ts, j, k + 1, t, h, e, hx => x_tsw_at (j := j + 1) (k := k) h.2 e (by rw [hx]; congr 1; omega)
theorem ss_20 (hC : CC p s m args meth c D tc A nL own cc) (hd : decode cc pc = .ok (i, len)) (hI : x_okI mth own fr lo nL rt (pc, 20, i, len, a, b, d, val, ts) = true) (hj : ∀ (t : Nat) (lv : xL) (st : List xV) (hp : xH), go (x_to t code) lv st hp → GG p l e R s m args below meth c Q D tc A nL OK nc ns t lv st hp) (h : x_step l mth code ret go (pc, 20, i, len, a, b, d, val, ts) rest lv st hp) : GG p l e R s m args below meth c Q D tc A nL OK nc ns pc lv st hp := by
  replace hI : x_q20 mth own fr lo nL rt pc i len a b d val ts = true := hI
  unfold x_q20 at hI
  replace h : x_o20 l mth code ret go a b d val ts rest lv st hp := h
  unfold x_o20 at h
  split at hI
  · simp only [Bool.and_eq_true, beq_iff_eq, decide_eq_true_eq] at hI
    obtain ⟨⟨⟨rfl, rfl⟩, ho⟩, ht⟩ := hI
    split at h
    · rename_i x st'
      by_cases hin : x.toInt < 0 ∨ ((ts.length : Int) - 1) < x.toInt
      · exact o_tabOut hC hd hin ht (hj _ _ _ _ (h.2 hin))
      · have h1 : ¬ x.toInt < 0 := fun q => hin (Or.inl q)
        have h2 : ¬ ((ts.length : Int) - 1) < x.toInt := fun q => hin (Or.inr q)
        have hk : x.toInt.toNat < ts.length := by omega
        obtain ⟨t, het⟩ : ∃ t, ts[x.toInt.toNat]? = some t := ⟨_, List.getElem?_eq_getElem hk⟩
        refine o_tabIn (off := (t : Int) - (pc : Int)) (tgt := t) hC hd h1 h2 ?_ (by omega) (hj _ _ _ _ (x_tsw_at (k := x.toInt.toNat) h.1 het (by omega)))
        rw [← Array.getElem?_toList, ho, show (x.toInt - 0).toNat = x.toInt.toNat by omega, List.getElem?_map, het]
        rfl
    · exact h.elim
  · cases hI
theorem ss_21 (hC : CC p s m args meth c D tc A nL own cc) (hd : decode cc pc = .ok (i, len)) (hI : x_okI mth own fr lo nL rt (pc, 21, i, len, a, b, d, val, ts) = true) (hg : ∀ (lv : xL) (st : List xV) (hp : xH), go rest lv st hp → GG p l e R s m args below meth c Q D tc A nL OK nc ns (pc + len) lv st hp) (hR : fr ≤ R.frames ∧ lo ≤ R.locals) (hcs : nc ≤ R.cells ∧ ns ≤ R.slots) (h : x_step l mth code ret go (pc, 21, i, len, a, b, d, val, ts) rest lv st hp) : GG p l e R s m args below meth c Q D tc A nL OK nc ns pc lv st hp := by
  replace hI : x_q21 mth own fr lo nL rt pc i len a b d val ts = true := hI
  unfold x_q21 at hI
  replace h : x_o21 l mth code ret go a b d val ts rest lv st hp := h
  unfold x_o21 at h
  split at hI
  · simp only [Bool.and_eq_true, beq_iff_eq, decide_eq_true_eq] at hI
    obtain ⟨⟨⟨rfl, hw⟩, hfr⟩, hlo⟩ := hI
    split at h
    · split at h
      · rename_i hg0 hg1 hb2
        have hb3 := Nat.le_of_ble_eq_true hb2
        exact o_copy hC hg0 hg1 h.1 h.2.1 h.2.2.1 h.2.2.2.1 h.2.2.2.2.1 (x_fN_of hw _ (by simp)) (x_fN_of hw _ (by simp)) (x_fN_of hw _ (by simp)) (x_fN_of hw _ (by simp)) (Nat.le_trans hfr hR.1) (by rw [x_cs_eq]; have := hR.2; omega) hd (hg _ _ _ h.2.2.2.2.2)
      · exact h.elim
    · exact h.elim
  · cases hI
theorem ss_22 (hC : CC p s m args meth c D tc A nL own cc) (hd : decode cc pc = .ok (i, len)) (hI : x_okI mth own fr lo nL rt (pc, 22, i, len, a, b, d, val, ts) = true) (hg : ∀ (lv : xL) (st : List xV) (hp : xH), go rest lv st hp → GG p l e R s m args below meth c Q D tc A nL OK nc ns (pc + len) lv st hp) (hR : fr ≤ R.frames ∧ lo ≤ R.locals) (hcs : nc ≤ R.cells ∧ ns ≤ R.slots) (h : x_step l mth code ret go (pc, 22, i, len, a, b, d, val, ts) rest lv st hp) : GG p l e R s m args below meth c Q D tc A nL OK nc ns pc lv st hp := by
  replace hI : x_q22 mth own fr lo nL rt pc i len a b d val ts = true := hI
  unfold x_q22 at hI
  replace h : x_o22 l mth code ret go a b d val ts rest lv st hp := h
  unfold x_o22 at h
  split at hI
  · simp only [Bool.and_eq_true, beq_iff_eq, decide_eq_true_eq] at hI
    obtain ⟨⟨⟨rfl, hw⟩, hfr⟩, hlo⟩ := hI
    split at h
    · split at h
      · rename_i hb2
        have hb3 := Nat.le_of_ble_eq_true hb2
        exact o_min hC (x_fN_of hw _ (by simp)) (x_fN_of hw _ (by simp)) (x_fN_of hw _ (by simp)) (x_fN_of hw _ (by simp)) (Nat.le_trans hfr hR.1) (by rw [x_cs_eq]; have := hR.2; omega) hcs.1 hcs.2 hd (hg _ _ _ h)
      · exact h.elim
    · exact h.elim
  · cases hI
theorem ss_23 (hC : CC p s m args meth c D tc A nL own cc) (hd : decode cc pc = .ok (i, len)) (hI : x_okI mth own fr lo nL rt (pc, 23, i, len, a, b, d, val, ts) = true) (hg : ∀ (lv : xL) (st : List xV) (hp : xH), go rest lv st hp → GG p l e R s m args below meth c Q D tc A nL OK nc ns (pc + len) lv st hp) (hR : fr ≤ R.frames ∧ lo ≤ R.locals) (hcs : nc ≤ R.cells ∧ ns ≤ R.slots) (h : x_step l mth code ret go (pc, 23, i, len, a, b, d, val, ts) rest lv st hp) : GG p l e R s m args below meth c Q D tc A nL OK nc ns pc lv st hp := by
  replace hI : x_q23 mth own fr lo nL rt pc i len a b d val ts = true := hI
  unfold x_q23 at hI
  replace h : x_o23 l mth code ret go a b d val ts rest lv st hp := h
  unfold x_o23 at h
  split at hI
  · simp only [Bool.and_eq_true, beq_iff_eq, decide_eq_true_eq] at hI
    obtain ⟨⟨⟨rfl, hw⟩, hfr⟩, hlo⟩ := hI
    split at h
    · split at h
      · rename_i hb2
        have hb3 := Nat.le_of_ble_eq_true hb2
        exact o_maxl hC (x_fN_of hw _ (by simp)) (x_fN_of hw _ (by simp)) (x_fN_of hw _ (by simp)) (x_fN_of hw _ (by simp)) (Nat.le_trans hfr hR.1) (by rw [x_cs_eq]; have := hR.2; omega) hcs.1 hcs.2 hd (hg _ _ _ h)
      · exact h.elim
    · exact h.elim
  · cases hI
theorem ss_24 (hC : CC p s m args meth c D tc A nL own cc) (hd : decode cc pc = .ok (i, len)) (hI : x_okI mth own fr lo nL rt (pc, 24, i, len, a, b, d, val, ts) = true) (hg : ∀ (lv : xL) (st : List xV) (hp : xH), go rest lv st hp → GG p l e R s m args below meth c Q D tc A nL OK nc ns (pc + len) lv st hp) (hR : fr ≤ R.frames ∧ lo ≤ R.locals) (hcs : nc ≤ R.cells ∧ ns ≤ R.slots) (h : x_step l mth code ret go (pc, 24, i, len, a, b, d, val, ts) rest lv st hp) : GG p l e R s m args below meth c Q D tc A nL OK nc ns pc lv st hp := by
  replace hI : x_q24 mth own fr lo nL rt pc i len a b d val ts = true := hI
  unfold x_q24 at hI
  replace h : x_o24 l mth code ret go a b d val ts rest lv st hp := h
  unfold x_o24 at h
  split at hI
  · simp only [Bool.and_eq_true, beq_iff_eq, decide_eq_true_eq] at hI
    rename_i idx
    obtain ⟨⟨⟨rfl, hw⟩, hfr⟩, hlo⟩ := hI
    have hws : ∀ w ∈ va_wsS own idx yJ7_fill_53178 (x_ws zJ_fill), w ∈ lw_g := fun w hw9 => by
      rcases List.mem_append.mp hw9 with h9 | h9
      · exact x_fN_of hw w (by
          rcases List.mem_cons.mp h9 with rfl | h9
          · simp
          rcases List.mem_cons.mp h9 with rfl | h9
          · simp
          rcases List.mem_cons.mp h9 with rfl | h9
          · simp
          · cases h9)
      · rcases List.mem_cons.mp h9 with rfl | h9
        · exact x_fN_of hw _ (by simp)
        · exact h9
    split at h
    · split at h
      · rename_i hg9 hb2
        exact o_fill hC hg9 h.1 hws ⟨Nat.le_trans hfr hR.1, Nat.le_trans hlo hR.2⟩ (by rw [x_cs_eq]; exact Nat.le_of_ble_eq_true hb2) hcs hd (hg _ _ _ h.2)
      · rename_i hg9 hb2
        exact o_fillR hC hg9 h.1 h.2.1 hws ⟨Nat.le_trans hfr hR.1, Nat.le_trans hlo hR.2⟩ (by rw [x_cs_eq]; exact Nat.le_of_ble_eq_true hb2) hcs hd (hg _ _ _ h.2.2)
      · exact h.elim
    · exact h.elim
  · cases hI
end XSND
