/-! ===== loads run, a load is put in line: both sides ===== -/
theorem s_skip {g : Nat → Int32} {line waits : Rows} (h : RL g line waits) (hI : iL line) {f : Nat} (hf : 0 < f) (hf8 : f ≤ 8) (N : Nat) (k : (Nat → Int32) → Option (Nat → Int32)) : ∀ (d i n : Nat), i + d = rnN line → L_X12_runs_15 N k (n + d) (nI f) (nI i) g = L_X12_runs_15 N k n (nI f) (nI (rnN line)) g := by
  obtain ⟨lr, hG, hl, h256, hLR⟩ := h
  have hrl := rnN_le line
  intro d
  induction d with
  | zero => intro i n hd; rw [show i = rnN line by omega, Nat.add_zero]
  | succ d ih =>
    intro i n hd
    have hi : i < line.length := by omega
    have hm : g 15 = nI line.length := by rw [hG.1, hl]
    have hIS : F_X12_loadAt g (nI i) 1 = some 2 := by
      rw [s_loadAt hG (by omega) (by omega) 1 1 rfl (by decide)]
      have e1 := (hLR _ hi).2.1
      have e2 : (line.getD i []).getD 1 0 = 1 := by
        have := hI.2.1 _ hi
        rw [if_pos (by omega)] at this
        exact this
      rw [e2, if_pos rfl] at e1
      exact congrArg some e1
    rw [← Nat.add_assoc, e_X12_runs_15]
    unfold K_X12_runs_15 J_X12_runs_126
    rw [gl 15 15 rfl (by decide), hm, if_neg (nI_ge hi (by omega)), if_neg (nI_nle hf (by omega)), hIS, bd_t rfl, if_neg (by decide), lt_b, nI_1]
    exact ih (i + 1) n (by omega)
/-- what stays as loads run -/
def runP (T T' : Nat → Rows) (V V' : Nat → Nat → Int32) : Prop := iL (T' 6) ∧ kOK (T' 1) ∧ (T' 6).length = (T 6).length ∧ (∀ i, i < (T 6).length → cl (rw' (T' 6) i) 0 = cl (rw' (T 6) i) 0) ∧ (∀ j, j ≠ 0 → j ≠ 1 → j ≠ 6 → T' j = T j) ∧ (∀ j, j ≠ 1 → V' j = V j) ∧ rnN (T 6) ≤ rnN (T' 6) ∧ (∀ i, i < rnN (T 6) → rw' (T' 6) i = rw' (T 6) i) ∧ ∀ i, rnN (T 6) ≤ i → i < rnN (T' 6) → cl (rw' (T' 6) i) 2 = V 4 0
theorem s_runs {N : Nat} (hN : 65536 ≤ N) {T : Nat → Rows} {V : Nat → Nat → Int32} {g : Nat → Int32} (h : RR T V g) (hI : iL (T 6)) (hk1 : kOK (T 1)) {lo : Nat} (hlo : V 0 4 = nI lo) (hlo8 : lo ≤ 8) : ∃ (T' : Nat → Rows) (V' : Nat → Nat → Int32) (g' : Nat → Int32), F_X3_runWhatMay N (V 0) (V 4 0) (T 0) (T 1) (V 1) (T 6) = some (T' 0, T' 1, V' 1, T' 6) ∧ F_X12_runs N g = some g' ∧ RR T' V' g' ∧ runP T T' V V' := by
  have hrl0 := h.2.2.2.2.2.2.1
  have h256 : (T 6).length ≤ 256 := by obtain ⟨lr, hG, hl, h6, -⟩ := hrl0; exact h6
  have hrl := rnN_le (T 6)
  have hg4 : g 4 = nI lo := by rw [h.2.2.2.2.2.2.2.2.1.1 4 (by decide)]; exact hlo
  unfold F_X3_runWhatMay F_X12_runs
  rw [n_running, bd_t rfl, n_value 4 4 rfl (by decide), bd_t rfl, hlo, lt_b, gl 4 4 rfl (by decide), hg4, s_loads hN hrl0, bd_t rfl, lt_b]
  by_cases hf : lo ≤ rnN (T 6)
  · have hle : nI lo - nI (rnN (T 6)) ≤ 0 := by
      by_cases q : lo = rnN (T 6)
      · rw [q, pk_sub (Nat.le_refl _), Nat.sub_self]; decide
      · exact Int32.le_of_lt (pk_sneg (by omega) (by omega))
    obtain ⟨n, rfl⟩ : ∃ n, N = n + 1 := ⟨N - 1, by omega⟩
    refine ⟨T, V, g, ?_, ?_, h, hI, hk1, rfl, fun _ _ => rfl, fun _ _ _ _ => rfl, fun _ _ => rfl, Nat.le_refl _, fun _ _ => rfl, fun i h1 h2 => by omega⟩
    · rw [e_X3_runWhatMay_16]
      unfold K_X3_runWhatMay_16
      rw [if_pos hle]
    · rw [e_X12_runs_15]
      unfold K_X12_runs_15
      rw [gl 15 15 rfl (by decide), if_pos hle]
      split <;> rfl
  · obtain ⟨T', V', g', c1, c2, c3, c4, c5, c6, c7, c8, c9, c10, c11, c12⟩ := s_runsL hN (lo - rnN (T 6)) T V g (by omega) h hI hk1
    refine ⟨T', V', g', ?_, ?_, c3, c4, c5, c6, c7, c8, c9, by omega, c11, c12⟩
    · rw [pk_sub (by omega)]
      exact c1 N (by omega)
    · rw [pk_sub (by omega)]
      have e := s_skip hrl0 hI (f := lo - rnN (T 6)) (by omega) (by omega) N (fun g => some g) (rnN (T 6)) 0 (N - rnN (T 6)) (by omega)
      rw [nI_0, show N - rnN (T 6) + rnN (T 6) = N by omega] at e
      rw [e]
      exact c2 (N - rnN (T 6)) (by omega)
theorem wl_push (waits : Rows) (k a k' : Int32) : wl (waits ++ [[k, a]]) k' = if k' = k then wl waits k' ++ [a] else wl waits k' := by
  unfold wl
  rw [List.filter_append]
  by_cases q : k' = k
  · subst q
    rw [if_pos rfl, List.map_append]
    congr 1
    simp
  · rw [if_neg q, List.map_append]
    have : ¬ k = k' := fun e => q e.symm
    simp [this]
/-- waits as the class must hold them -/
def iW (line waits : Rows) : Prop := ∀ r ∈ waits, (∃ q ∈ line, cl q 0 = cl r 0) ∧ ∃ a, a < 16 ∧ cl r 1 = nI a
theorem wl_nil {line waits : Rows} (h : iW line waits) {k : Int32} (hk : ∀ q ∈ line, ¬ cl q 0 = k) : wl waits k = [] := by
  unfold wl
  rw [List.map_eq_nil_iff, List.filter_eq_nil_iff]
  intro r hr q
  obtain ⟨⟨p, hp, e⟩, -⟩ := h r hr
  exact hk p hp (e.trans (of_decide_eq_true q))
theorem iL_push {line : Rows} (hI : iL line) {k : Int32} (hk : Vk k) (hnew : ∀ q ∈ line, ¬ cl q 0 = k) : iL (line ++ [[k, 0, 0]]) ∧ rnN (line ++ [[k, 0, 0]]) = rnN line := by
  have hrl := rnN_le line
  have hc : rnN (line ++ [[k, 0, 0]]) = rnN line := by
    unfold rnN
    rw [List.countP_append]
    rfl
  refine ⟨⟨fun r hr => ?_, fun i hi => ?_, ?_⟩, hc⟩
  · rcases List.mem_append.mp hr with q | q
    · exact hI.1 r q
    · rw [List.mem_singleton.mp q]; exact ⟨rfl, hk⟩
  · rw [hc]
    rw [List.length_append, List.length_singleton] at hi
    by_cases q : i < line.length
    · have e : rw' (line ++ [[k, 0, 0]]) i = rw' line i := by
        show (line ++ [[k, 0, 0]]).getD i [] = line.getD i []
        rw [List.getD_eq_getElem?_getD, List.getElem?_append_left q, ← List.getD_eq_getElem?_getD]
      rw [e]
      exact hI.2.1 i q
    · have hq : i = line.length := by omega
      subst hq
      have e : rw' (line ++ [[k, 0, 0]]) line.length = [k, 0, 0] := by
        show (line ++ [[k, 0, 0]]).getD line.length [] = _
        rw [List.getD_eq_getElem?_getD, List.getElem?_append_right (Nat.le_refl _), Nat.sub_self]
        rfl
      rw [e, if_neg (by omega)]
      rfl
  · rw [List.pairwise_append]
    refine ⟨hI.2.2, List.pairwise_singleton _ _, fun r hr q hq => ?_⟩
    rw [List.mem_singleton.mp hq]
    exact hnew r hr
def wtP (waits : Rows) (k : Int32) : Option Nat → Rows
  | none => waits
  | some a => waits ++ [[k, nI a]]
def cnP : Option Nat → Int32
  | none => 0
  | some _ => 1
def wkP : Option Nat → List Int32
  | none => []
  | some a => [nI a]
/-- a load is put in line, for an asker or for nobody: the reference's row, up to the book -/
theorem s_lined {T : Nat → Rows} {V : Nat → Nat → Int32} {g : Nat → Int32} (h : RR T V g) (hW : iW (T 6) (T 7)) {k : Int32} (hnew : ∀ q ∈ T 6, ¬ cl q 0 = k) (hl : (T 6).length < 256) (as : Option Nat) (hx : ∀ a, as = some a → a < 16) :
    RR (va_up (va_up T 6 (T 6 ++ [[k, 0, 0]])) 7 (wtP (T 7) k as)) V (upd (upd (upd (upd (upd g 15 (nI ((T 6).length + 1))) (2003 + (T 6).length * 20) (kc k)) (2003 + (T 6).length * 20 + 1) 1) (2003 + (T 6).length * 20 + 3) (cnP as)) (2003 + (T 6).length * 20 + 4) (oI as)) := by
  obtain ⟨lr, hG, hlr, h256, hLR⟩ := h.2.2.2.2.2.2.1
  generalize hX : 2003 + (T 6).length * 20 = X
  generalize hc : cnP as = cn
  generalize hw : (wtP (T 7) k as) = waits'
  generalize hg' : upd (upd (upd (upd (upd g 15 (nI ((T 6).length + 1))) X (kc k)) (X + 1) 1) (X + 3) cn) (X + 4) (oI as) = g'
  have hnil := wl_nil hW hnew
  have hwk : wl waits' k = wkP as := by
    rw [← hw]
    cases as with
    | none => exact hnil
    | some a =>
      show wl (T 7 ++ [[k, nI a]]) k = _
      rw [wl_push, if_pos rfl, hnil]; rfl
  have hwo : ∀ k', ¬ k' = k → wl waits' k' = wl (T 7) k' := by
    intro k' hk'
    rw [← hw]
    cases as with
    | none => rfl
    | some a =>
      show wl (T 7 ++ [[k, nI a]]) k' = _
      rw [wl_push, if_neg hk']
  refine h.uRL ⟨lr ++ [(List.range 20).map (fun j => g' (X + j))], ?_, ?_, ?_, fun i hi => ?_⟩ (fun p hp hq => by rw [← hg', upd_ne (by omega), upd_ne (by omega), upd_ne (by omega), upd_ne (by omega), upd_ne (by omega)])
  · refine GT.pushed (g' := upd g 15 (nI ((T 6).length + 1))) (by rw [upd_at, hlr]) (fun i j hi hj => ?_) ?_ (fun p h5 h6 => ?_) (fun j hj => ?_)
    · have := cell_lt (w := 20) hi hj
      rw [upd_ne (by omega)]
      exact hG.2 i j hi hj
    · rw [← hg', upd_ne (by omega), upd_ne (by omega), upd_ne (by omega), upd_ne (by omega)]
    · rw [hlr] at h6
      rw [← hg', upd_ne (by omega), upd_ne (by omega), upd_ne (by omega), upd_ne (by omega)]
    · rw [q_getD_lt (by simp; omega)]
      rw [List.getElem_map, List.getElem_range, show 2003 + (lr.length * 20 + j) = X + j by omega]
  · rw [List.length_append, List.length_append, hlr]; rfl
  · rw [List.length_append, List.length_singleton]; omega
  · rw [List.length_append, List.length_singleton] at hi
    by_cases q : i < (T 6).length
    · have e1 : (T 6 ++ [[k, 0, 0]]).getD i [] = rw' (T 6) i := by
        rw [List.getD_eq_getElem?_getD, List.getElem?_append_left q, ← List.getD_eq_getElem?_getD]
      have e2 : (lr ++ [(List.range 20).map (fun j => g' (X + j))]).getD i [] = rw' lr i := by
        rw [List.getD_eq_getElem?_getD, List.getElem?_append_left (by omega), ← List.getD_eq_getElem?_getD]
      rw [e1, e2]
      have hne : ¬ (rw' (T 6) i).getD 0 0 = k := by
        have := hnew _ (List.getElem_mem q)
        rw [← q_getD_lt (d := []) q] at this
        exact this
      have := hLR i q
      unfold LR at this ⊢
      rw [hwo _ hne]
      exact this
    · have hi' : i = (T 6).length := by omega
      subst hi'
      have e1 : (T 6 ++ [[k, 0, 0]]).getD (T 6).length [] = [k, 0, 0] := by
        rw [List.getD_eq_getElem?_getD, List.getElem?_append_right (Nat.le_refl _), Nat.sub_self]; rfl
      have e2 : (lr ++ [(List.range 20).map (fun j => g' (X + j))]).getD (T 6).length [] = (List.range 20).map (fun j => g' (X + j)) := by
        rw [List.getD_eq_getElem?_getD, List.getElem?_append_right (by omega), hlr, Nat.sub_self]; rfl
      rw [e1, e2]
      have s : ∀ j, j < 20 → ((List.range 20).map (fun j => g' (X + j))).getD j 0 = g' (X + j) := by
        intro j hj
        rw [q_getD_lt (by simp; omega), List.getElem_map, List.getElem_range]
      have hk0 : ([k, 0, 0] : List Int32).getD 0 0 = k := rfl
      unfold LR
      rw [hk0, hwk]
      refine ⟨?_, ?_, fun z => absurd z (show ¬ (0 : Int32) = 1 by decide), ?_, ?_, fun m hm => ?_, by simp⟩
      · rw [s 0 (by decide), ← hg', upd_ne (by omega), upd_ne (by omega), upd_ne (by omega)]
        show upd _ X (kc k) X = _
        rw [upd_at]
      · rw [s 1 (by decide), ← hg', upd_ne (by omega), upd_ne (by omega), upd_at]; rfl
      · rw [s 3 (by decide), ← hg', upd_ne (by omega), upd_at, ← hc]
        cases as <;> rfl
      · cases as
        · exact Nat.zero_le _
        · exact (by decide : 1 ≤ 16)
      · cases as with
        | none => exact absurd hm (Nat.not_lt_zero _)
        | some a =>
          have hm0 : m = 0 := by have : m < 1 := hm; omega
          subst hm0
          rw [s 4 (by decide), ← hg', upd_at]
          rfl

theorem iW_push {line waits : Rows} (h : iW line waits) {k : Int32} (as : Option Nat) (hx : ∀ a, as = some a → a < 16) : iW (line ++ [[k, 0, 0]]) (wtP waits k as) := by
  have old : ∀ r ∈ waits, (∃ q ∈ line ++ [[k, 0, 0]], cl q 0 = cl r 0) ∧ ∃ a, a < 16 ∧ cl r 1 = nI a := by
    intro r hr
    obtain ⟨⟨q, hq, e⟩, h2⟩ := h r hr
    exact ⟨⟨q, List.mem_append.mpr (Or.inl hq), e⟩, h2⟩
  cases as with
  | none => exact old
  | some a =>
    intro r hr
    rcases List.mem_append.mp (show r ∈ waits ++ [[k, nI a]] from hr) with z | z
    · exact old r z
    · rw [List.mem_singleton.mp z]
      exact ⟨⟨[k, 0, 0], List.mem_append.mpr (Or.inr List.mem_cons_self), rfl⟩, a, hx a rfl, rfl⟩
theorem iW_keys {line line' waits : Rows} (h : iW line waits) (hl : line'.length = line.length) (hk : ∀ i, i < line.length → cl (rw' line' i) 0 = cl (rw' line i) 0) : iW line' waits := by
  intro r hr
  obtain ⟨⟨q, hq, e⟩, h2⟩ := h r hr
  obtain ⟨i, hi, rfl⟩ := List.getElem_of_mem hq
  have hi' : i < line'.length := by omega
  refine ⟨⟨line'[i], List.getElem_mem hi', ?_⟩, h2⟩
  rw [show line'[i] = rw' line' i from (q_getD_lt hi').symm, hk i hi, show rw' line i = line[i] from q_getD_lt hi]
  exact e
theorem s_lineUp {N : Nat} (hN : 65536 ≤ N) {T : Nat → Rows} {V : Nat → Nat → Int32} {g : Nat → Int32} (h : RR T V g) (hI : iL (T 6)) (hW : iW (T 6) (T 7)) (hk1 : kOK (T 1)) {lo : Nat} (hlo : V 0 4 = nI lo) (hlo8 : lo ≤ 8) {k : Int32} (hk : Vk k) (hnew : ∀ q ∈ T 6, ¬ cl q 0 = k) (hl : (T 6).length < 256) (as : Option Nat) (hx : ∀ a, as = some a → a < 16) :
    ∃ (T' : Nat → Rows) (V' : Nat → Nat → Int32) (g' : Nat → Int32), F_X3_lineUp N (V 0) (V 4 0) (T 0) (T 1) (V 1) (T 6) k = some (T' 0, T' 1, V' 1, T' 6) ∧ F_X12_lines N g (kc k) (oI as) = some g' ∧ RR T' V' g' ∧ T' 7 = wtP (T 7) k as ∧ iL (T' 6) ∧ iW (T' 6) (T' 7) ∧ kOK (T' 1) ∧ (T' 6).length = (T 6).length + 1 ∧ (∀ j, j ≠ 0 → j ≠ 1 → j ≠ 6 → j ≠ 7 → T' j = T j) ∧ (∀ j, j ≠ 1 → V' j = V j) ∧ rnN (T 6) ≤ rnN (T' 6) ∧ (∀ i, i < rnN (T 6) → rw' (T' 6) i = rw' (T 6) i) ∧ ∀ i, rnN (T 6) ≤ i → i < rnN (T' 6) → cl (rw' (T' 6) i) 2 = V 4 0 := by
  have hm : g 15 = nI (T 6).length := by obtain ⟨lr, hG, hlr, -, -⟩ := h.2.2.2.2.2.2.1; rw [hG.1, hlr]
  have r1 := s_lined h hW hnew hl as hx
  obtain ⟨g2, h2, r2⟩ := s_happens hN r1 (Or.inr hk) 1
  obtain ⟨I1, hc1⟩ := iL_push hI hk hnew
  have r2' : RR (va_up (va_up (va_up T 6 (T 6 ++ [[k, 0, 0]])) 7 (wtP (T 7) k as)) 0 (pushK (T 0) 1 (V 4 0) k)) V g2 := r2
  obtain ⟨T', V', g', c1, c2, c3, p1, p2, p3, p4, p5, p6, p7, p8, p9⟩ := s_runs hN r2' I1 hk1 hlo hlo8
  have e6 : (va_up (va_up (va_up T 6 (T 6 ++ [[k, 0, 0]])) 7 (wtP (T 7) k as)) 0 (pushK (T 0) 1 (V 4 0) k)) 6 = T 6 ++ [[k, 0, 0]] := rfl
  have e7 : (va_up (va_up (va_up T 6 (T 6 ++ [[k, 0, 0]])) 7 (wtP (T 7) k as)) 0 (pushK (T 0) 1 (V 4 0) k)) 7 = wtP (T 7) k as := rfl
  have hrl := rnN_le (T 6)
  have t7 : T' 7 = wtP (T 7) k as := p5 7 (by decide) (by decide) (by decide)
  have hlen : (T 6 ++ [[k, 0, 0]]).length = (T 6).length + 1 := by rw [List.length_append, List.length_singleton]
  refine ⟨T', V', g', ?_, ?_, c3, t7, p1, ?_, p2, by rw [p3, e6, hlen], fun j a0 a1 a6 a7 => ?_, p6, by rw [e6, hc1] at p7; exact p7, fun i hi => ?_, fun i h1 h3 => ?_⟩
  · unfold F_X3_lineUp
    have hkr : (tpush 256 3 (T 6) k 0 0).2 = T 6 ++ [[k, 0, 0]] := by rw [tpush3]; unfold keepR; rw [if_pos hl]
    have hnt := n_note hN (Or.inr hk) (V 4 0) (T 0) (V 1) 1 (by decide)
    have hnt' : F_X2_note N (V 4 0) (T 0) (V 1) 1 k = some (pushK (T 0) 1 (V 4 0) k, V 1) := hnt
    have c1' : F_X3_runWhatMay N (V 0) (V 4 0) (pushK (T 0) 1 (V 4 0) k) (T 1) (V 1) (T 6 ++ [[k, 0, 0]]) = some (T' 0, T' 1, V' 1, T' 6) := c1
    rw [lt_b, hkr, hnt', bd_t rfl, c1', bd_t rfl]
  · unfold F_X12_lines
    generalize hX : 2003 + (T 6).length * 20 = X at h2
    have eX : (2003 : Int32) + nI (T 6).length * 20 = nI X := by rw [← hX]; exact ix2 2003 (T 6).length 20
    rw [gl 15 15 rfl (by decide), hm, lt_b, eX, gl 15 15 rfl (by decide), hm, nI_1, gs 15 15 rfl (by decide), gs (nI X + 0) X (by rw [Int32.add_zero]) (by omega), gs (nI X + 1) (X + 1) (nI_1 X) (by omega)]
    have j60 : ∀ t2, t2 = cnP as → J_X12_lines_60 N (nI X + 3) t2 (kc k) (oI as) (nI X) (upd (upd (upd g 15 (nI ((T 6).length + 1))) X (kc k)) (X + 1) 1) = some g' := by
      intro t2 ht2
      subst ht2
      unfold J_X12_lines_60
      rw [gs (nI X + 3) (X + 3) (nI_add X 3) (by omega), gs (nI X + 4) (X + 4) (nI_add X 4) (by omega), h2, bd_t rfl, c2, bd_t rfl]
    cases as with
    | none => rw [if_neg (show ¬ (0 : Int32) ≤ oI none by decide)]; exact j60 0 rfl
    | some a =>
      have ha := hx a rfl
      rw [if_pos (show (0 : Int32) ≤ oI (some a) from nI_pos' (by omega))]; exact j60 1 rfl
  · rw [t7]
    have := iW_push hW (k := k) as hx
    exact iW_keys this (by rw [p3, e6]) (fun i hi => p4 i hi)
  · rw [p5 j a0 a1 a6, va_up_ne _ _ a0, va_up_ne _ _ a7, va_up_ne _ _ a6]
  · rw [p8 i (by rw [e6, hc1]; exact hi), e6]
    show (T 6 ++ [[k, 0, 0]]).getD i [] = (T 6).getD i []
    rw [List.getD_eq_getElem?_getD, List.getElem?_append_left (by omega), ← List.getD_eq_getElem?_getD]
  · exact p9 i (by rw [e6, hc1]; exact h1) h3
