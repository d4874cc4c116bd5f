/-! ===== the small machine without fuel ===== -/
theorem ex_succ : ∀ (n y ip : Nat) (ls st : List MV) (h : HP) (r : HP × OUT), ex n y ip ls st h = some r → ex (n + 1) y ip ls st h = some r := by
  intro n
  induction n with
  | zero => intro y ip ls st h r hz; simp [ex] at hz
  | succ n ih =>
    intro y ip ls st h r hz
    unfold ex at hz ⊢
    cases hv : (zK y)[ip]? with
    | none => rw [hv] at hz; cases hz
    | some v =>
      rw [hv] at hz
      dsimp only at hz ⊢
      by_cases h18 : qop v = 18
      · rw [if_pos h18] at hz ⊢
        by_cases hg : zNa (qb v) ≤ st.length ∧ zNa (qb v) ≤ zL (qb v) ∧ (st.drop (zNa (qb v))).length ≤ 4 ∧ zrecv (qb v) (st.take (zNa (qb v))).reverse h = true ∧ (st.take (zNa (qb v))).all zsm = true
        · rw [if_pos hg] at hz ⊢
          cases he : ex n (qb v) 0 (zpad (qb v) (st.take (zNa (qb v))).reverse) [] h with
          | none => rw [he] at hz; cases hz
          | some q =>
            rw [he] at hz
            rw [ih _ _ _ _ _ _ he]
            obtain ⟨h1, (_ | w) | e⟩ := q
            · exact ih _ _ _ _ _ _ hz
            · exact ih _ _ _ _ _ _ hz
            · dsimp only at hz ⊢
              cases hh : zhand y (qpc v) e with
              | none => rw [hh] at hz; exact hz
              | some t => rw [hh] at hz; exact ih _ _ _ _ _ _ hz
        · rw [if_neg hg] at hz; cases hz
      · rw [if_neg h18] at hz ⊢
        cases hs : zstep y v ip ls st h with
        | none => rw [hs] at hz; cases hz
        | some q =>
          rw [hs] at hz
          obtain ⟨ip1, ls1, st1, h1⟩ | r1 := q
          · exact ih _ _ _ _ _ _ hz
          · exact hz
theorem ex_le {n k y ip : Nat} {ls st : List MV} {h : HP} {r : HP × OUT} (hn : n ≤ k) (hz : ex n y ip ls st h = some r) : ex k y ip ls st h = some r := by
  induction hn with
  | refl => exact hz
  | step _ ih => exact ex_succ _ _ _ _ _ _ _ ih
theorem ex_det {n k y ip : Nat} {ls st : List MV} {h : HP} {r r1 : HP × OUT} (h1 : ex n y ip ls st h = some r) (h2 : ex k y ip ls st h = some r1) : r = r1 := by
  have a := ex_le (Nat.le_max_left n k) h1
  have b := ex_le (Nat.le_max_right n k) h2
  exact Option.some.inj (a.symm.trans b)
noncomputable def Go (y ip : Nat) (ls st : List MV) (h : HP) : Option (HP × OUT) := @dite _ (∃ n r, ex n y ip ls st h = some r) (Classical.propDecidable _) (fun q => some (Classical.choose (Classical.choose_spec q))) (fun _ => none)
theorem Go_of {n y ip : Nat} {ls st : List MV} {h : HP} {r : HP × OUT} (he : ex n y ip ls st h = some r) : Go y ip ls st h = some r := by
  unfold Go
  have q : ∃ n r, ex n y ip ls st h = some r := ⟨n, r, he⟩
  rw [dif_pos q]
  exact congrArg some (ex_det (Classical.choose_spec (Classical.choose_spec q)) he)
theorem Go_ex {y ip : Nat} {ls st : List MV} {h : HP} {r : HP × OUT} (hg : Go y ip ls st h = some r) : ∃ n, ex n y ip ls st h = some r := by
  unfold Go at hg
  by_cases q : ∃ n r, ex n y ip ls st h = some r
  · rw [dif_pos q] at hg
    have := Classical.choose_spec (Classical.choose_spec q)
    rw [Option.some.inj hg] at this
    exact ⟨_, this⟩
  · rw [dif_neg q] at hg
    cases hg
theorem Go_eq_of {y ip y1 ip1 : Nat} {ls st ls1 st1 : List MV} {h h1 : HP} (a : ∀ n r, ex n y ip ls st h = some r → ∃ k, ex k y1 ip1 ls1 st1 h1 = some r) (b : ∀ n r, ex n y1 ip1 ls1 st1 h1 = some r → ∃ k, ex k y ip ls st h = some r) : Go y ip ls st h = Go y1 ip1 ls1 st1 h1 := by
  cases hg : Go y ip ls st h with
  | some r =>
    obtain ⟨n, hn⟩ := Go_ex hg
    obtain ⟨k, hk⟩ := a n r hn
    exact (Go_of hk).symm
  | none =>
    cases hg1 : Go y1 ip1 ls1 st1 h1 with
    | none => rfl
    | some r =>
      obtain ⟨n, hn⟩ := Go_ex hg1
      obtain ⟨k, hk⟩ := b n r hn
      rw [Go_of hk] at hg
      cases hg
/-- a row that goes on -/
theorem Go_st {y ip v ip1 : Nat} {ls st ls1 st1 : List MV} {h h1 : HP} (hv : (zK y)[ip]? = some v) (h18 : (qop v == 18) = false) (hs : zstep y v ip ls st h = some (.inl (ip1, ls1, st1, h1))) : Go y ip ls st h = Go y ip1 ls1 st1 h1 := by
  have h18 : ¬ qop v = 18 := by simpa using h18
  refine Go_eq_of (fun n r hn => ?_) (fun n r hn => ⟨n + 1, ?_⟩)
  · cases n with
    | zero => simp [ex] at hn
    | succ n =>
      unfold ex at hn
      rw [hv] at hn
      dsimp only at hn
      rw [if_neg h18, hs] at hn
      exact ⟨n, hn⟩
  · unfold ex
    rw [hv]
    dsimp only
    rw [if_neg h18, hs]
    exact hn
/-- a row that ends -/
theorem Go_end {y ip v : Nat} {ls st : List MV} {h : HP} {r : HP × OUT} (hv : (zK y)[ip]? = some v) (h18 : (qop v == 18) = false) (hs : zstep y v ip ls st h = some (.inr r)) : Go y ip ls st h = some r := by
  have h18 : ¬ qop v = 18 := by simpa using h18
  apply Go_of (n := 1)
  unfold ex
  rw [hv]
  dsimp only
  rw [if_neg h18, hs]
/-- behind a call -/
noncomputable def cal (y pc : Nat) (ls rest : List MV) (ip : Nat) (q : Option (HP × OUT)) : Option (HP × OUT) := match q with
  | none => none
  | some (h1, .inl none) => Go y ip ls rest h1
  | some (h1, .inl (some r)) => Go y ip ls (r :: rest) h1
  | some (h1, .inr e) => match zhand y pc e with
    | none => if (zH y).isEmpty then some (h1, .inr e) else none
    | some t => Go y t ls [.inr (.inl (some (hN h1)))] (hOpq h1)
theorem Go_call {y ip v z : Nat} {ls st as rest : List MV} {h : HP} (hv : (zK y)[ip]? = some v) (h18 : (qop v == 18) = true) (hz : qb v = z) (hst : st = as.reverse ++ rest) (hg : (decide (as.length = zNa z) && decide (zNa z ≤ zL z) && decide (rest.length ≤ 4)) = true) (hr : zrecv z as h = true) (hs : as.all zsm = true) :
    Go y ip ls st h = cal y (qpc v) ls rest (ip + 1) (Go z 0 (zpad z as) [] h) := by
  have h18 : qop v = 18 := by simpa using h18
  subst hz
  simp only [Bool.and_eq_true, decide_eq_true_eq] at hg
  obtain ⟨⟨g1, g2⟩, g3⟩ := hg
  have e1 : st.take (zNa (qb v)) = as.reverse := by rw [hst, List.take_append_of_le_length (by rw [List.length_reverse]; omega), List.take_of_length_le (by rw [List.length_reverse]; omega)]
  have e2 : st.drop (zNa (qb v)) = rest := by rw [hst, List.drop_append_of_le_length (by rw [List.length_reverse]; omega), List.drop_of_length_le (by rw [List.length_reverse]; omega), List.nil_append]
  have e3 : (st.take (zNa (qb v))).reverse = as := by rw [e1, List.reverse_reverse]
  have hcond : zNa (qb v) ≤ st.length ∧ zNa (qb v) ≤ zL (qb v) ∧ (st.drop (zNa (qb v))).length ≤ 4 ∧ zrecv (qb v) (st.take (zNa (qb v))).reverse h = true ∧ (st.take (zNa (qb v))).all zsm = true := by
    refine ⟨by rw [hst, List.length_append, List.length_reverse]; omega, g2, by rw [e2]; exact g3, by rw [e3]; exact hr, by rw [e1, List.all_reverse]; exact hs⟩
  have key : ∀ n, ex (n + 1) y ip ls st h = (match ex n (qb v) 0 (zpad (qb v) as) [] h with
          | none => none
          | some (h1, .inl none) => ex n y (ip + 1) ls rest h1
          | some (h1, .inl (some r)) => ex n y (ip + 1) ls (r :: rest) h1
          | some (h1, .inr e) => match zhand y (qpc v) e with
            | none => if (zH y).isEmpty then some (h1, .inr e) else none
            | some t => ex n y t ls [.inr (.inl (some (hN h1)))] (hOpq h1)) := by
    intro n
    conv => lhs; unfold ex
    rw [hv]
    dsimp only
    rw [if_pos h18, if_pos hcond, e2, e3]
    cases hx : ex n (qb v) 0 (zpad (qb v) as) [] h with
    | none => rfl
    | some q =>
      obtain ⟨h1, (_ | w) | e⟩ := q
      · rfl
      · rfl
      · dsimp only
        cases zhand y (qpc v) e <;> rfl
  cases hg : Go (qb v) 0 (zpad (qb v) as) [] h with
  | none =>
    unfold cal
    cases hg2 : Go y ip ls st h with
    | none => rfl
    | some r =>
      obtain ⟨n, hn⟩ := Go_ex hg2
      cases n with
      | zero => simp [ex] at hn
      | succ n =>
        rw [key] at hn
        cases hx : ex n (qb v) 0 (zpad (qb v) as) [] h with
        | none => rw [hx] at hn; cases hn
        | some q => rw [Go_of hx] at hg; cases hg
  | some q =>
    obtain ⟨n0, hn0⟩ := Go_ex hg
    have red : ∀ (ip2 : Nat) (ls2 st2 : List MV) (h2 : HP), (∀ n, n0 ≤ n → ex (n + 1) y ip ls st h = ex n y ip2 ls2 st2 h2) → Go y ip ls st h = Go y ip2 ls2 st2 h2 := by
      intro ip2 ls2 st2 h2 hx
      refine Go_eq_of (fun n r hn => ⟨max n n0, ?_⟩) (fun n r hn => ⟨max n n0 + 1, ?_⟩)
      · rw [← hx _ (Nat.le_max_right _ _)]
        exact ex_le (Nat.le_trans (Nat.le_max_left n n0) (Nat.le_succ _)) hn
      · rw [hx _ (Nat.le_max_right _ _)]
        exact ex_le (Nat.le_max_left n n0) hn
    have hk : ∀ n, n0 ≤ n → ex n (qb v) 0 (zpad (qb v) as) [] h = some q := fun n hn => ex_le hn hn0
    obtain ⟨h1, (_ | w) | e⟩ := q
    · exact red _ _ _ _ (fun n hn => by rw [key, hk n hn])
    · exact red _ _ _ _ (fun n hn => by rw [key, hk n hn])
    · unfold cal
      dsimp only
      cases hh : zhand y (qpc v) e with
      | some t => exact red _ _ _ _ (fun n hn => by rw [key, hk n hn]; dsimp only; rw [hh])
      | none =>
        dsimp only
        by_cases hE : (zH y).isEmpty = true
        · rw [if_pos hE]
          apply Go_of (n := n0 + 1)
          rw [key, hk n0 (Nat.le_refl _)]
          dsimp only
          rw [hh]
          dsimp only
          rw [if_pos hE]
        · rw [if_neg hE]
          cases hg2 : Go y ip ls st h with
          | none => rfl
          | some r =>
            obtain ⟨n, hn⟩ := Go_ex hg2
            have hn := ex_le (Nat.le_trans (Nat.le_max_left n n0) (Nat.le_succ _)) hn
            rw [key, hk _ (Nat.le_max_right _ _)] at hn
            dsimp only at hn
            rw [hh] at hn
            dsimp only at hn
            rw [if_neg hE] at hn
            cases hn
/-! ===== rows of the code, by what they are ===== -/
def zrow (y ip : Nat) : Nat × Int × Nat × Nat := match (zK y)[ip]? with
  | some v => (qop v, qa v, qb v, qc v)
  | none => (63, 0, 0, 0)
theorem zrow_v {y ip op b c : Nat} {a : Int} (h : zrow y ip = (op, a, b, c)) (h63 : (op == 63) = false) : ∃ v, (zK y)[ip]? = some v ∧ qop v = op ∧ qa v = a ∧ qb v = b ∧ qc v = c := by
  unfold zrow at h
  cases hv : (zK y)[ip]? with
  | none =>
    rw [hv] at h
    simp only [Prod.mk.injEq] at h
    obtain ⟨rfl, -⟩ := h
    cases h63
  | some v =>
    rw [hv] at h
    simp only [Prod.mk.injEq] at h
    exact ⟨v, rfl, h⟩
section GO
variable {y ip b c : Nat} {a x x1 x2 : Int} {r r1 : Option Nat} {i j k : Nat} {ls st : List MV} {h : HP}
theorem Go_z {op : Nat} {q : ST} (hz : zrow y ip = (op, a, b, c)) (h63 : (op == 63) = false) (h18 : (op == 18) = false) (hs : ∀ v, qop v = op → qa v = a → qb v = b → qc v = c → zstep y v ip ls st h = some (.inl q)) : Go y ip ls st h = Go y q.1 q.2.1 q.2.2.1 q.2.2.2 := by
  obtain ⟨v, hv, h1, h2, h3, h4⟩ := zrow_v hz h63
  obtain ⟨a1, a2, a3, a4⟩ := q
  exact Go_st hv (by rw [h1]; exact h18) (hs v h1 h2 h3 h4)
theorem Go_const (hz : zrow y ip = (0, a, b, c)) : Go y ip ls st h = Go y (ip + 1) ls (.inl a :: st) h :=
  Go_z (q := (ip + 1, ls, .inl a :: st, h)) hz rfl rfl (fun v h1 h2 h3 h4 => by unfold zstep; rw [h1, h2]; rfl)
theorem Go_ldc (hz : zrow y ip = (41, a, b, c)) : Go y ip ls st h = Go y (ip + 1) ls (.inl a :: st) h :=
  Go_z (q := (ip + 1, ls, .inl a :: st, h)) hz rfl rfl (fun v h1 h2 h3 h4 => by unfold zstep; rw [h1, h2]; rfl)
theorem Go_lconst (hz : zrow y ip = (38, a, b, c)) : Go y ip ls st h = Go y (ip + 1) ls (.inr (.inr a) :: st) h :=
  Go_z (q := (ip + 1, ls, .inr (.inr a) :: st, h)) hz rfl rfl (fun v h1 h2 h3 h4 => by unfold zstep; rw [h1, h2]; rfl)
theorem Go_null (hz : zrow y ip = (33, a, b, c)) : Go y ip ls st h = Go y (ip + 1) ls (.inr (.inl none) :: st) h :=
  Go_z (q := (ip + 1, ls, .inr (.inl none) :: st, h)) hz rfl rfl (fun v h1 h2 h3 h4 => by unfold zstep; rw [h1]; rfl)
theorem Go_iload (hz : zrow y ip = (1, a, b, c)) (hl : ls[b]? = some (.inl x)) : Go y ip ls st h = Go y (ip + 1) ls (.inl x :: st) h :=
  Go_z (q := (ip + 1, ls, .inl x :: st, h)) hz rfl rfl (fun v h1 h2 h3 h4 => by unfold zstep; rw [h1, h3]; show (match ls[b]? with | some (.inl x) => zgo (ip + 1) ls (.inl x :: st) h | _ => none) = _; rw [hl]; rfl)
theorem Go_aload (hz : zrow y ip = (42, a, b, c)) (hl : ls[b]? = some (.inr (.inl r))) : Go y ip ls st h = Go y (ip + 1) ls (.inr (.inl r) :: st) h :=
  Go_z (q := (ip + 1, ls, .inr (.inl r) :: st, h)) hz rfl rfl (fun v h1 h2 h3 h4 => by unfold zstep; rw [h1, h3]; show (match ls[b]? with | some (.inr (.inl r)) => zgo (ip + 1) ls (.inr (.inl r) :: st) h | _ => none) = _; rw [hl]; rfl)
theorem Go_istore (hz : zrow y ip = (2, a, b, c)) (hl : decide (b < ls.length) = true) : Go y ip ls (.inl x :: st) h = Go y (ip + 1) (ls.set b (.inl x)) st h :=
  Go_z (q := (ip + 1, ls.set b (.inl x), st, h)) hz rfl rfl (fun v h1 h2 h3 h4 => by unfold zstep; rw [h1, h3]; show (if b < ls.length then _ else _) = _; rw [if_pos (of_decide_eq_true hl)]; rfl)
theorem Go_astore (hz : zrow y ip = (43, a, b, c)) (hl : decide (b < ls.length) = true) : Go y ip ls (.inr (.inl r) :: st) h = Go y (ip + 1) (ls.set b (.inr (.inl r))) st h :=
  Go_z (q := (ip + 1, ls.set b (.inr (.inl r)), st, h)) hz rfl rfl (fun v h1 h2 h3 h4 => by unfold zstep; rw [h1, h3]; show (if b < ls.length then _ else _) = _; rw [if_pos (of_decide_eq_true hl)]; rfl)
theorem Go_iinc (hz : zrow y ip = (3, a, b, c)) (hl : ls[b]? = some (.inl x)) (hg : rgI (x + a)) : Go y ip ls st h = Go y (ip + 1) (ls.set b (.inl (x + a))) st h :=
  Go_z (q := (ip + 1, ls.set b (.inl (x + a)), st, h)) hz rfl rfl (fun v h1 h2 h3 h4 => by
    unfold zstep; rw [h1, h2, h3]
    show (match ls[b]? with | some (.inl x) => if rgI (x + a) then zgo (ip + 1) (ls.set b (.inl (x + a))) st h else none | _ => none) = _
    rw [hl]; dsimp only; rw [if_pos hg]; rfl)
theorem Go_ar {op : Nat} (hz : zrow y ip = (op, a, b, c)) (hop : (zfam op == 5) = true) (hg : zarith op x1 x2 = some x) : Go y ip ls (.inl x2 :: .inl x1 :: st) h = Go y (ip + 1) ls (.inl x :: st) h :=
  Go_z (q := (ip + 1, ls, .inl x :: st, h)) hz (by
    cases hq : op == 63
    · rfl
    · have : op = 63 := by simpa using hq
      subst this
      cases hop) (by
    cases hq : op == 18
    · rfl
    · have : op = 18 := by simpa using hq
      subst this
      cases hop) (fun v h1 h2 h3 h4 => by
    unfold zstep
    have e : zfam (qop v) = 5 := by rw [h1]; simpa using hop
    rw [e, h1]
    show (match zarith op x1 x2 with | some r => zgo (ip + 1) ls (.inl r :: st) h | none => none) = _
    rw [hg]; rfl)
theorem Go_dupI (hz : zrow y ip = (27, a, b, c)) : Go y ip ls (.inl x :: st) h = Go y (ip + 1) ls (.inl x :: .inl x :: st) h :=
  Go_z (q := (ip + 1, ls, .inl x :: .inl x :: st, h)) hz rfl rfl (fun v h1 h2 h3 h4 => by unfold zstep; rw [h1]; rfl)
theorem Go_dupR (hz : zrow y ip = (27, a, b, c)) : Go y ip ls (.inr (.inl r) :: st) h = Go y (ip + 1) ls (.inr (.inl r) :: .inr (.inl r) :: st) h :=
  Go_z (q := (ip + 1, ls, .inr (.inl r) :: .inr (.inl r) :: st, h)) hz rfl rfl (fun v h1 h2 h3 h4 => by unfold zstep; rw [h1]; rfl)
theorem Go_dup2 (hz : zrow y ip = (28, a, b, c)) : Go y ip ls (.inl x :: .inr (.inl r) :: st) h = Go y (ip + 1) ls (.inl x :: .inr (.inl r) :: .inl x :: .inr (.inl r) :: st) h :=
  Go_z (q := (ip + 1, ls, .inl x :: .inr (.inl r) :: .inl x :: .inr (.inl r) :: st, h)) hz rfl rfl (fun v h1 h2 h3 h4 => by unfold zstep; rw [h1]; rfl)
theorem Go_popI (hz : zrow y ip = (29, a, b, c)) : Go y ip ls (.inl x :: st) h = Go y (ip + 1) ls st h :=
  Go_z (q := (ip + 1, ls, st, h)) hz rfl rfl (fun v h1 h2 h3 h4 => by unfold zstep; rw [h1]; rfl)
theorem Go_popR (hz : zrow y ip = (29, a, b, c)) : Go y ip ls (.inr (.inl r) :: st) h = Go y (ip + 1) ls st h :=
  Go_z (q := (ip + 1, ls, st, h)) hz rfl rfl (fun v h1 h2 h3 h4 => by unfold zstep; rw [h1]; rfl)
theorem Go_i2l (hz : zrow y ip = (36, a, b, c)) : Go y ip ls (.inl x :: st) h = Go y (ip + 1) ls (.inr (.inr x) :: st) h :=
  Go_z (q := (ip + 1, ls, .inr (.inr x) :: st, h)) hz rfl rfl (fun v h1 h2 h3 h4 => by unfold zstep; rw [h1]; rfl)
theorem Go_lcmp (hz : zrow y ip = (37, a, b, c)) : Go y ip ls (.inr (.inr x2) :: .inr (.inr x1) :: st) h = Go y (ip + 1) ls (.inl (if x1 < x2 then -1 else if x1 = x2 then 0 else 1) :: st) h :=
  Go_z (q := (ip + 1, ls, .inl (if x1 < x2 then -1 else if x1 = x2 then 0 else 1) :: st, h)) hz rfl rfl (fun v h1 h2 h3 h4 => by unfold zstep; rw [h1]; rfl)
theorem Go_objinit (hz : zrow y ip = (40, a, b, c)) (hl : decide (st.length ≤ 4) = true) : Go y ip ls (.inr (.inl (some i)) :: st) h = Go y (ip + 1) ls st h :=
  Go_z (q := (ip + 1, ls, st, h)) hz rfl rfl (fun v h1 h2 h3 h4 => by unfold zstep; rw [h1]; show (if st.length ≤ 4 then _ else _) = _; rw [if_pos (of_decide_eq_true hl)]; rfl)
theorem Go_goto (hz : zrow y ip = (14, a, b, c)) : Go y ip ls st h = Go y c ls st h :=
  Go_z (q := (c, ls, st, h)) hz rfl rfl (fun v h1 h2 h3 h4 => by unfold zstep; rw [h1, h4]; rfl)
theorem Go_if (hz : zrow y ip = (12, a, b, c)) : Go y ip ls (.inl x :: st) h = if zcond b x 0 = true then Go y c ls st h else Go y (ip + 1) ls st h := by
  refine (Go_z (q := (if zcond b x 0 then c else ip + 1, ls, st, h)) hz rfl rfl (fun v h1 h2 h3 h4 => by unfold zstep; rw [h1, h3, h4]; rfl)).trans ?_
  dsimp only
  split <;> rfl
theorem Go_icmp (hz : zrow y ip = (13, a, b, c)) : Go y ip ls (.inl x2 :: .inl x1 :: st) h = if zcond b x1 x2 = true then Go y c ls st h else Go y (ip + 1) ls st h := by
  refine (Go_z (q := (if zcond b x1 x2 then c else ip + 1, ls, st, h)) hz rfl rfl (fun v h1 h2 h3 h4 => by unfold zstep; rw [h1, h3, h4]; rfl)).trans ?_
  dsimp only
  split <;> rfl
theorem Go_switch (hz : zrow y ip = (15, a, b, c)) : Go y ip ls (.inl x :: st) h = Go y (if 0 ≤ x ∧ x < ((zsw.getD b []).length : Int) then (zsw.getD b []).getD x.toNat 0 else c) ls st h :=
  Go_z (q := (if 0 ≤ x ∧ x < ((zsw.getD b []).length : Int) then (zsw.getD b []).getD x.toNat 0 else c, ls, st, h)) hz rfl rfl (fun v h1 h2 h3 h4 => by unfold zstep; rw [h1, h3, h4]; rfl)
theorem Go_null0 (hz : zrow y ip = (34, a, b, c)) : Go y ip ls (.inr (.inl r) :: st) h = if r = none then Go y c ls st h else Go y (ip + 1) ls st h := by
  refine (Go_z (q := (if r = none then c else ip + 1, ls, st, h)) hz rfl rfl (fun v h1 h2 h3 h4 => by unfold zstep; rw [h1, h4]; rfl)).trans ?_
  dsimp only
  split <;> rfl
theorem Go_null1 (hz : zrow y ip = (35, a, b, c)) : Go y ip ls (.inr (.inl r) :: st) h = if r = none then Go y (ip + 1) ls st h else Go y c ls st h := by
  refine (Go_z (q := (if r = none then ip + 1 else c, ls, st, h)) hz rfl rfl (fun v h1 h2 h3 h4 => by unfold zstep; rw [h1, h4]; rfl)).trans ?_
  dsimp only
  split <;> rfl
theorem Go_getI (hz : zrow y ip = (16, a, b, c)) (hs : (zSh b c == 2) = false) (ht : (hK h i).1 = 10 + b) : Go y ip ls (.inr (.inl (some i)) :: st) h = Go y (ip + 1) ls (.inl (hI h i c) :: st) h :=
  Go_z (q := (ip + 1, ls, .inl (hI h i c) :: st, h)) hz rfl rfl (fun v h1 h2 h3 h4 => by
    unfold zstep; rw [h1, h3, h4]; show (if (hK h i).1 = 10 + b then _ else _) = _; rw [if_pos ht, if_neg (by simpa using hs)]; rfl)
theorem Go_getR (hz : zrow y ip = (16, a, b, c)) (hs : (zSh b c == 2) = true) (ht : (hK h i).1 = 10 + b) : Go y ip ls (.inr (.inl (some i)) :: st) h = Go y (ip + 1) ls (.inr (.inl (hR h i c)) :: st) h :=
  Go_z (q := (ip + 1, ls, .inr (.inl (hR h i c)) :: st, h)) hz rfl rfl (fun v h1 h2 h3 h4 => by
    unfold zstep; rw [h1, h3, h4]; show (if (hK h i).1 = 10 + b then _ else _) = _; rw [if_pos ht, if_pos (by simpa using hs)]; rfl)
theorem Go_putI (hz : zrow y ip = (17, a, b, c)) (ht : (hK h i).1 = 10 + b) (hs : zSh b c = 0 ∨ zSh b c = 1 ∧ (x = 0 ∨ x = 1)) : Go y ip ls (.inl x :: .inr (.inl (some i)) :: st) h = Go y (ip + 1) ls st (hSI h i c x) :=
  Go_z (q := (ip + 1, ls, st, hSI h i c x)) hz rfl rfl (fun v h1 h2 h3 h4 => by
    unfold zstep; rw [h1, h3, h4]; show (if (hK h i).1 = 10 + b ∧ _ then _ else _) = _; rw [if_pos ⟨ht, hs⟩]; rfl)
theorem Go_putR (hz : zrow y ip = (17, a, b, c)) (ht : (hK h i).1 = 10 + b) (hs : (zSh b c == 2) = true) : Go y ip ls (.inr (.inl r) :: .inr (.inl (some i)) :: st) h = Go y (ip + 1) ls st (hSR h i c r) :=
  Go_z (q := (ip + 1, ls, st, hSR h i c r)) hz rfl rfl (fun v h1 h2 h3 h4 => by
    unfold zstep; rw [h1, h3, h4]; show (if (hK h i).1 = 10 + b ∧ zSh b c = 2 then _ else _) = _; rw [if_pos ⟨ht, by simpa using hs⟩]; rfl)
theorem Go_new (hz : zrow y ip = (19, a, b, c)) : Go y ip ls st h = Go y (ip + 1) ls (.inr (.inl (some (hN h))) :: st) (hNew h (10 + b) 0 (zNF b)) :=
  Go_z (q := (ip + 1, ls, .inr (.inl (some (hN h))) :: st, hNew h (10 + b) 0 (zNF b))) hz rfl rfl (fun v h1 h2 h3 h4 => by unfold zstep; rw [h1, h3]; rfl)
theorem Go_newa (hz : zrow y ip = (20, a, b, c)) (hn : 0 ≤ x ∧ x ≤ 10000) : Go y ip ls (.inl x :: st) h = Go y (ip + 1) ls (.inr (.inl (some (hN h))) :: st) (hNew h b x x.toNat) :=
  Go_z (q := (ip + 1, ls, .inr (.inl (some (hN h))) :: st, hNew h b x x.toNat)) hz rfl rfl (fun v h1 h2 h3 h4 => by unfold zstep; rw [h1, h3]; show (if 0 ≤ x ∧ x ≤ 10000 then _ else _) = _; rw [if_pos hn]; rfl)
theorem Go_anew (hz : zrow y ip = (21, a, b, c)) (hn : 0 ≤ x ∧ x ≤ 10000) : Go y ip ls (.inl x :: st) h = Go y (ip + 1) ls (.inr (.inl (some (hN h))) :: st) (hNew h b x x.toNat) :=
  Go_z (q := (ip + 1, ls, .inr (.inl (some (hN h))) :: st, hNew h b x x.toNat)) hz rfl rfl (fun v h1 h2 h3 h4 => by unfold zstep; rw [h1, h3]; show (if 0 ≤ x ∧ x ≤ 10000 then _ else _) = _; rw [if_pos hn]; rfl)
theorem Go_alen {t : Nat} (hz : zrow y ip = (22, a, b, c)) (ht : hK h i = (t, x)) (h6 : (decide (t ≤ 6) && decide (t ≠ 5)) = true) : Go y ip ls (.inr (.inl (some i)) :: st) h = Go y (ip + 1) ls (.inl x :: st) h :=
  Go_z (q := (ip + 1, ls, .inl x :: st, h)) hz rfl rfl (fun v h1 h2 h3 h4 => by
    simp only [Bool.and_eq_true, decide_eq_true_eq] at h6
    unfold zstep; rw [h1]; show (if (hK h i).1 ≤ 6 ∧ (hK h i).1 ≠ 5 then _ else _) = _; rw [ht, if_pos h6]; rfl)
theorem Go_ald {t : Nat} {len : Int} (hz : zrow y ip = (23, a, b, c)) (hb : (b == 2) = false) (ht : hK h i = (t, len)) (hbt : (t == b || (b == 0 && t == 6)) = true) (hx : 0 ≤ x ∧ x < len) : Go y ip ls (.inl x :: .inr (.inl (some i)) :: st) h = Go y (ip + 1) ls (.inl (hI h i x) :: st) h :=
  Go_z (q := (ip + 1, ls, .inl (hI h i x) :: st, h)) hz rfl rfl (fun v h1 h2 h3 h4 => by
    have hbt : t = b ∨ b = 0 ∧ t = 6 := by simpa using hbt
    unfold zstep; rw [h1, h3]; show (if ((hK h i).1 = b ∨ b = 0 ∧ (hK h i).1 = 6) ∧ 0 ≤ x ∧ x < (hK h i).2 then _ else _) = _
    rw [ht, if_pos ⟨hbt, hx⟩, if_neg (by simpa using hb)]; rfl)
theorem Go_ldl {len : Int} (hz : zrow y ip = (23, a, 2, c)) (ht : hK h i = (2, len)) (hx : 0 ≤ x ∧ x < len) : Go y ip ls (.inl x :: .inr (.inl (some i)) :: st) h = Go y (ip + 1) ls (.inr (.inr (hI h i x)) :: st) h :=
  Go_z (q := (ip + 1, ls, .inr (.inr (hI h i x)) :: st, h)) hz rfl rfl (fun v h1 h2 h3 h4 => by
    unfold zstep; rw [h1, h3]; show (if ((hK h i).1 = 2 ∨ 2 = 0 ∧ (hK h i).1 = 6) ∧ 0 ≤ x ∧ x < (hK h i).2 then _ else _) = _
    rw [ht, if_pos ⟨Or.inl rfl, hx⟩]; rfl)
theorem Go_ast {len : Int} (hz : zrow y ip = (24, a, b, c)) (ht : hK h i = (b, len)) (hx : 0 ≤ x ∧ x < len) (hs : b = 0 ∨ b = 1 ∧ (x1 = 0 ∨ x1 = 1)) : Go y ip ls (.inl x1 :: .inl x :: .inr (.inl (some i)) :: st) h = Go y (ip + 1) ls st (hSI h i x x1) :=
  Go_z (q := (ip + 1, ls, st, hSI h i x x1)) hz rfl rfl (fun v h1 h2 h3 h4 => by
    unfold zstep; rw [h1, h3]; show (if (hK h i).1 = b ∧ 0 ≤ x ∧ x < (hK h i).2 ∧ _ then _ else _) = _
    rw [ht, if_pos ⟨rfl, hx.1, hx.2, hs⟩]; rfl)
theorem Go_stl {len : Int} (hz : zrow y ip = (24, a, 2, c)) (ht : hK h i = (2, len)) (hx : 0 ≤ x ∧ x < len) : Go y ip ls (.inr (.inr x1) :: .inl x :: .inr (.inl (some i)) :: st) h = Go y (ip + 1) ls st (hSI h i x x1) :=
  Go_z (q := (ip + 1, ls, st, hSI h i x x1)) hz rfl rfl (fun v h1 h2 h3 h4 => by
    unfold zstep; rw [h1, h3]; show (if (hK h i).1 = 2 ∧ 0 ≤ x ∧ x < (hK h i).2 ∧ 2 = 2 then _ else _) = _
    rw [ht, if_pos ⟨rfl, hx.1, hx.2, rfl⟩]; rfl)
theorem Go_aald {t : Nat} {len : Int} (hz : zrow y ip = (25, a, b, c)) (ht : hK h i = (t, len)) (h34 : (t == 3 || t == 4) = true) (hx : 0 ≤ x ∧ x < len) : Go y ip ls (.inl x :: .inr (.inl (some i)) :: st) h = Go y (ip + 1) ls (.inr (.inl (hR h i x)) :: st) h :=
  Go_z (q := (ip + 1, ls, .inr (.inl (hR h i x)) :: st, h)) hz rfl rfl (fun v h1 h2 h3 h4 => by
    have h34 : t = 3 ∨ t = 4 := by simpa using h34
    unfold zstep; rw [h1]; show (if ((hK h i).1 = 3 ∨ (hK h i).1 = 4) ∧ 0 ≤ x ∧ x < (hK h i).2 then _ else _) = _
    rw [ht, if_pos ⟨h34, hx⟩]; rfl)
theorem Go_aast {t : Nat} {len : Int} (hz : zrow y ip = (26, a, b, c)) (ht : hK h i = (t, len)) (h34 : (t == 3 || t == 4) = true) (hx : 0 ≤ x ∧ x < len) (hj : (hK h j).1 = 10 + zcls t) : Go y ip ls (.inr (.inl (some j)) :: .inl x :: .inr (.inl (some i)) :: st) h = Go y (ip + 1) ls st (hSR h i x (some j)) :=
  Go_z (q := (ip + 1, ls, st, hSR h i x (some j))) hz rfl rfl (fun v h1 h2 h3 h4 => by
    have h34 : t = 3 ∨ t = 4 := by simpa using h34
    unfold zstep; rw [h1]; show (if ((hK h i).1 = 3 ∨ (hK h i).1 = 4) ∧ 0 ≤ x ∧ x < (hK h i).2 ∧ (hK h j).1 = 10 + zcls (hK h i).1 then _ else _) = _
    rw [ht, if_pos ⟨h34, hx.1, hx.2, hj⟩]; rfl)
theorem Go_e {op : Nat} {q : HP × OUT} (hz : zrow y ip = (op, a, b, c)) (h63 : (op == 63) = false) (h18 : (op == 18) = false) (hs : ∀ v, qop v = op → qb v = b → zstep y v ip ls st h = some (.inr q)) : Go y ip ls st h = some q := by
  obtain ⟨v, hv, h1, h2, h3, h4⟩ := zrow_v hz h63
  exact Go_end hv (by rw [h1]; exact h18) (hs v h1 h3)
theorem Go_iret (hz : zrow y ip = (30, a, b, c)) (hs : zRs y = 0 ∨ zRs y = 1 ∧ (x = 0 ∨ x = 1)) : Go y ip ls [.inl x] h = some (h, .inl (some (.inl x))) :=
  Go_e hz rfl rfl (fun v h1 h3 => by unfold zstep; rw [h1]; show (if _ then _ else _) = _; rw [if_pos hs]; rfl)
theorem Go_aret (hz : zrow y ip = (39, a, b, c)) (hs : (zRs y == 2) = true) : Go y ip ls [.inr (.inl r)] h = some (h, .inl (some (.inr (.inl r)))) :=
  Go_e hz rfl rfl (fun v h1 h3 => by unfold zstep; rw [h1]; show (if zRs y = 2 then _ else _) = _; rw [if_pos (by simpa using hs)]; rfl)
theorem Go_vret (hz : zrow y ip = (31, a, b, c)) (hs : (zRs y == 3) = true) : Go y ip ls [] h = some (h, .inl none) :=
  Go_e hz rfl rfl (fun v h1 h3 => by unfold zstep; rw [h1]; show (if zRs y = 3 then _ else _) = _; rw [if_pos (by simpa using hs)]; rfl)
theorem Go_throw (hz : zrow y ip = (32, a, b, c)) (hl : decide (st.length ≤ 4) = true) : Go y ip ls st h = some (hThr h, .inr b) :=
  Go_e hz rfl rfl (fun v h1 h3 => by unfold zstep; rw [h1, h3]; show (if st.length ≤ 4 then _ else _) = _; rw [if_pos (of_decide_eq_true hl)]; rfl)
/-- a call; a method without handlers lets what is thrown through -/
noncomputable def caln (y : Nat) (ls rest : List MV) (ip : Nat) (q : Option (HP × OUT)) : Option (HP × OUT) := match q with
  | none => none
  | some (h1, .inl none) => Go y ip ls rest h1
  | some (h1, .inl (some r)) => Go y ip ls (r :: rest) h1
  | some (h1, .inr e) => some (h1, .inr e)
theorem caln_v {h1 : HP} {ls rest : List MV} : caln y ls rest ip (some (h1, .inl none)) = Go y ip ls rest h1 := rfl
theorem caln_r {h1 : HP} {ls rest : List MV} {w : MV} : caln y ls rest ip (some (h1, .inl (some w))) = Go y ip ls (w :: rest) h1 := rfl
theorem caln_x {h1 : HP} {ls rest : List MV} {e : Nat} : caln y ls rest ip (some (h1, .inr e)) = some (h1, .inr e) := rfl
theorem zhand_none (hy : zhn.all (fun q => !(q.1 == y)) = true) (pc e : Nat) : zhand y pc e = none := by
  unfold zhand
  rw [List.find?_eq_none.mpr]
  · rfl
  · intro q hq
    have := List.all_eq_true.mp hy q hq
    have h1 : (q.1 == y) = false := by simpa using this
    simp [h1]
theorem Go_call2 {z : Nat} {as rest : List MV} (hz : zrow y ip = (18, a, z, c)) (hH : ((zH y).isEmpty && zhn.all (fun q => !(q.1 == y))) = true) (hst : st = as.reverse ++ rest) (hg : (decide (as.length = zNa z) && decide (zNa z ≤ zL z) && decide (rest.length ≤ 4)) = true) (hr : zrecv z as h = true) (hs : as.all zsm = true) :
    Go y ip ls st h = caln y ls rest (ip + 1) (Go z 0 (zpad z as) [] h) := by
  obtain ⟨v, hv, h1, h2, h3, h4⟩ := zrow_v hz rfl
  rw [Go_call hv (by rw [h1]; rfl) h3 hst hg hr hs]
  simp only [Bool.and_eq_true] at hH
  cases hG : Go z 0 (zpad z as) [] h with
  | none => rfl
  | some q =>
    obtain ⟨h1, (_ | w) | e⟩ := q
    · rfl
    · rfl
    · unfold cal
      dsimp only
      rw [zhand_none hH.2]
      dsimp only
      rw [if_pos hH.1]
      rfl
end GO
