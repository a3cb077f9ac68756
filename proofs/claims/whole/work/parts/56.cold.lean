/-! ===== the cold shelf; one goes for place: both sides ===== -/
abbrev coldRow (k v w t s : Int32) : List Int32 := [v, w, t, 0, 0, 0, s, k, 0]
def trimC (c : Nat) (rows : Rows) : Rows := rows.drop (rows.length - c)
theorem trimC_len {c : Nat} {rows : Rows} : (trimC c rows).length ≤ c ∧ (trimC c rows).length ≤ rows.length := by
  unfold trimC
  rw [List.length_drop]
  omega
theorem tset_last {R : Rows} {row : List Int32} (h : R.length < 2 ^ 31) (y : Int32) (c : Nat) (hy : y = nI c) (hc : c < 2 ^ 31) (x : Int32) : tset (R ++ [row]) (nI R.length) y x = R ++ [row.set c x] := by
  subst hy
  unfold tset
  rw [if_neg (fun q => q.elim (nI_pos h) (nI_pos hc)), nI_clamp h, nI_clamp hc, List.modify_eq_take_cons_drop (by simp)]
  simp
theorem n_add {dm : Nat} {rows : Rows} (hd : 0 < dm) (hl : rows.length ≤ dm) (hm : dm < 65536) (k v w t s : Int32) : F_X0_add dm rows k v w t s = some (nI (keepR dm rows).length, keepR dm rows ++ [coldRow k v w t s]) := by
  have hk := keepR_len hl hd
  unfold F_X0_add
  have e1 : tpush dm 9 rows v w t = (nI (keepR dm rows).length, keepR dm rows ++ [[v, w, t, 0, 0, 0, 0, 0, 0]]) := by
    have : tpush dm 9 rows v w t = (nI ((keepR dm rows ++ [[v, w, t, 0, 0, 0, 0, 0, 0]]).length - 1), keepR dm rows ++ [[v, w, t, 0, 0, 0, 0, 0, 0]]) := rfl
    rw [this, List.length_append, List.length_singleton, Nat.add_sub_cancel]
  rw [lt_b, e1, lt_b, lt_b]
  dsimp only
  rw [tset_last (by omega) 7 7 rfl (by decide), tset_last (by omega) 6 6 rfl (by decide)]
  rfl
theorem n_value {vals : Nat → Int32} (x : Int32) (j : Nat) (hx : x = nI j) (hj : j < 8) : F_X5_value vals x = some (vals j) := by
  subst hx
  unfold F_X5_value
  rw [if_neg (nI_pos (by omega)), if_neg (nI_ge (b := 8) hj (by omega)), ldn (i := nI j) (n := 8) (k := j) rfl hj]
theorem drop_erase {rows : Rows} (h : 0 < rows.length) : rows.eraseIdx 0 = rows.drop 1 := by
  cases rows with
  | nil => simp at h
  | cons r rs => rfl
theorem n_trimL {vals : Nat → Int32} (N : Nat) : ∀ (n d : Nat) (rows : Rows), d ≤ rows.length → d < 65536 → d < n → L_X6_trimCold_18 N (fun colds => some colds) vals n (nI d) rows = some (rows.drop d) := by
  intro n
  induction n with
  | zero => intro d rows h1 h2 h3; omega
  | succ n ih =>
    intro d rows h1 h2 h3
    rw [e_X6_trimCold_18]
    unfold K_X6_trimCold_18 F_X0_remove
    cases d with
    | zero => rw [if_pos (by decide)]; rfl
    | succ d =>
      have e1 : tremove rows 0 = rows.drop 1 := by
        have := tremove_nI (rows := rows) (i := 0) (by decide)
        rw [nI_0] at this
        rw [this, drop_erase (by omega)]
      rw [if_neg (nI_nle (by omega) (by omega)), lt_b, bd_some, lt_b, pk_m1, e1, ih d (rows.drop 1) (by rw [List.length_drop]; omega) (by omega) (by omega), List.drop_drop]
      rw [Nat.add_comm 1 d]
theorem n_trim {N : Nat} (hN : 65536 ≤ N) {vals : Nat → Int32} {c : Nat} (hv : vals 6 = nI c) (hc : c ≤ 20) {rows : Rows} (hl : rows.length ≤ 21) : F_X6_trimCold N vals rows = some (trimC c rows) := by
  unfold F_X6_trimCold F_X0_size tsize
  rw [lt_b, bd_some, n_value 6 6 rfl (by decide), bd_some, lt_b, hv]
  unfold trimC
  by_cases h : rows.length ≤ c
  · rw [show rows.length - c = 0 by omega, List.drop_zero]
    obtain ⟨n, rfl⟩ : ∃ n, N = n + 1 := ⟨N - 1, by omega⟩
    rw [e_X6_trimCold_18]
    unfold K_X6_trimCold_18
    by_cases h2 : rows.length = c
    · rw [h2, if_pos]
      rw [pk_sub (Nat.le_refl _), Nat.sub_self]
      decide
    · rw [if_pos (Int32.le_of_lt (pk_sneg (by omega) (by omega)))]
  · rw [pk_sub (by omega)]
    exact n_trimL N N (rows.length - c) rows (by omega) (by omega) (by omega)
theorem trim_keep {c : Nat} (hc : c ≤ 20) {rows : Rows} (hl : rows.length ≤ 20) (r : List Int32) : trimC c (keepR 20 rows ++ [r]) = trimC c (rows ++ [r]) := by
  unfold keepR
  by_cases h : rows.length < 20
  · rw [if_pos h]
  · rw [if_neg h]
    have h20 : rows.length = 20 := by omega
    unfold trimC
    rw [List.length_append, List.length_append, List.length_drop, List.length_singleton, h20]
    have e1 : rows.drop 1 ++ [r] = (rows ++ [r]).drop 1 := by rw [List.drop_append_of_le_length (by omega)]
    rw [e1, List.drop_drop]
    congr 1
    omega
theorem n_putOnCold {N : Nat} (hN : 65536 ≤ N) {vals : Nat → Int32} {c : Nat} (hv : vals 6 = nI c) (hc : c ≤ 20) {ents colds : Rows} (hl : colds.length ≤ 20) {e : Nat} (he : e < 2 ^ 31) : F_X6_putOnCold N vals ents colds (nI e) = some (trimC c (colds ++ [coldRow (cl (rw' ents e) 7) (cl (rw' ents e) 0) (cl (rw' ents e) 1) (cl (rw' ents e) 2) (cl (rw' ents e) 6)])) := by
  have hk := keepR_len (most := 20) hl (by decide)
  unfold F_X6_putOnCold F_X0_get
  simp only [lt_b, bd_some]
  rw [tg e 7 7 rfl he (by decide), tg e 0 0 rfl he (by decide), tg e 1 1 rfl he (by decide), tg e 2 2 rfl he (by decide), tg e 6 6 rfl he (by decide), n_add (by decide) hl (by decide), bd_some, n_trim hN hv hc (by rw [List.length_append, List.length_singleton]; omega), bd_some, trim_keep hc hl]
theorem va_same {α : Type} (f : Nat → α) (k : Nat) : va_up f k (f k) = f := by
  funext j
  unfold va_up
  split
  · next h => rw [h]
  · rfl
theorem s_coldL {N : Nat} (hN : 65536 ≤ N) {c : Nat} (hc : c ≤ 20) : ∀ (n : Nat) (T : Nat → Rows) (V : Nat → Nat → Int32) (g : Nat → Int32), RR T V g → V 0 6 = nI c → (T 5).length - c < n → ∃ g', L_X12_coldRoom_0 N (fun g => some g) n g = some g' ∧ RR (va_up T 5 (trimC c (T 5))) V g' := by
  intro n
  induction n with
  | zero => intro T V g h hv hl; omega
  | succ n ih =>
    intro T V g h hv hl
    have hrc := h.2.2.2.2.2.1
    have h0 := h.2.2.2.2.2.2.2.2.1
    have h21 := hrc.2
    have hm : g 14 = nI (T 5).length := by rw [hrc.1.1, List.length_map]
    have h6 : g 6 = nI c := by rw [h0.1 6 (by decide)]; exact hv
    rw [e_X12_coldRoom_0]
    unfold K_X12_coldRoom_0
    rw [gl 14 14 rfl (by decide), hm, gl 6 6 rfl (by decide), h6]
    by_cases h1 : (T 5).length ≤ c
    · rw [if_pos (nI_le h1 (by omega))]
      refine ⟨g, rfl, ?_⟩
      unfold trimC
      rw [show (T 5).length - c = 0 by omega, List.drop_zero, va_same]
      exact h
    · rw [if_neg (nI_ge (by omega) (by omega))]
      obtain ⟨g1, h3, h4, h5⟩ := g_takesOut hN hrc.1 (by decide) (by rw [List.length_map]; omega) (by decide) (Or.inl (by decide)) (i := 0) (by rw [List.length_map]; omega)
      have h3' : F_X12_takesOut N g 14 1898 5 0 = some g1 := h3
      rw [map_erase, drop_erase (by omega)] at h4
      have r1 : RR (va_up T 5 ((T 5).drop 1)) V g1 := h.uRC ⟨h4, by rw [List.length_drop]; omega⟩ (fun p hp hq => h5 p (by omega) (by rw [List.length_map]; omega))
      have hl1 : ((va_up T 5 ((T 5).drop 1)) 5).length = (T 5).length - 1 := by show ((T 5).drop 1).length = _; rw [List.length_drop]
      obtain ⟨g2, h7, r2⟩ := ih _ V g1 r1 hv (by rw [hl1]; omega)
      rw [h3', bd_t rfl]
      refine ⟨g2, h7, ?_⟩
      rw [bx_uu] at r2
      have e1 : trimC c ((va_up T 5 ((T 5).drop 1)) 5) = trimC c (T 5) := by
        show trimC c ((T 5).drop 1) = _
        unfold trimC
        rw [List.drop_drop, List.length_drop]
        congr 1
        omega
      rw [e1] at r2
      exact r2
theorem s_coldRoom {N : Nat} (hN : 65536 ≤ N) {c : Nat} (hc : c ≤ 20) {T : Nat → Rows} {V : Nat → Nat → Int32} {g : Nat → Int32} (h : RR T V g) (hv : V 0 6 = nI c) : ∃ g', F_X12_coldRoom N g = some g' ∧ RR (va_up T 5 (trimC c (T 5))) V g' := by
  have h21 := h.2.2.2.2.2.1.2
  obtain ⟨g', h1, h2⟩ := s_coldL hN hc (N + 1) T V g h hv (by omega)
  refine ⟨g', ?_, h2⟩
  rw [e_X12_coldRoom_0] at h1
  exact h1
theorem ix2 (a e b : Nat) : nI a + nI e * nI b = nI (a + e * b) := by rw [pk_mul, nI_add]
theorem s_cools {N : Nat} (hN : 65536 ≤ N) {c : Nat} (hc : c ≤ 20) {T : Nat → Rows} {V : Nat → Nat → Int32} {g : Nat → Int32} (h : RR T V g) (hv : V 0 6 = nI c) (hl : (T 5).length ≤ 20) (k v w t s : Int32) : ∃ g', F_X12_cools N g (kc k) v w t s = some g' ∧ RR (va_up T 5 (trimC c (T 5 ++ [coldRow k v w t s]))) V g' := by
  have hrc := h.2.2.2.2.2.1
  have hm : g 14 = nI (T 5).length := by rw [hrc.1.1, List.length_map]
  generalize hx : 1898 + (T 5).length * 5 = X
  have hX : X + 5 ≤ 2003 := by omega
  have r1 : RR (va_up T 5 (T 5 ++ [coldRow k v w t s])) V (upd (upd (upd (upd (upd (upd g X (kc k)) (X + 1) v) (X + 2) w) (X + 3) t) (X + 4) s) 14 (nI ((T 5).length + 1))) := by
    refine h.uRC ⟨?_, ?_⟩ (fun p hp hq => ?_)
    · rw [List.map_append]
      refine GT.pushed (g' := upd g 14 (nI ((T 5).length + 1))) (by rw [upd_at, List.length_map]) (fun i j hi hj => ?_) (by rw [upd_at, upd_at]) (fun p h5 h6 => ?_) (fun j hj => ?_)
      · have hi' := hi
        rw [List.length_map] at hi'
        rw [upd_ne (by omega)]
        exact hrc.1.2 i j hi hj
      · rw [List.length_map] at h6
        by_cases q : p = 14
        · rw [q, upd_at, upd_at]
        · rw [upd_ne q, upd_ne (by omega), upd_ne (by omega), upd_ne (by omega), upd_ne (by omega), upd_ne (by omega), upd_ne q]
      · rw [List.length_map, upd_ne (by omega)]
        match j, hj with
        | 0, _ => rw [show 1898 + ((T 5).length * 5 + 0) = X by omega, upd_ne (by omega), upd_ne (by omega), upd_ne (by omega), upd_ne (by omega), upd_at]; rfl
        | 1, _ => rw [show 1898 + ((T 5).length * 5 + 1) = X + 1 by omega, upd_ne (by omega), upd_ne (by omega), upd_ne (by omega), upd_at]; rfl
        | 2, _ => rw [show 1898 + ((T 5).length * 5 + 2) = X + 2 by omega, upd_ne (by omega), upd_ne (by omega), upd_at]; rfl
        | 3, _ => rw [show 1898 + ((T 5).length * 5 + 3) = X + 3 by omega, upd_ne (by omega), upd_at]; rfl
        | 4, _ => rw [show 1898 + ((T 5).length * 5 + 4) = X + 4 by omega, upd_at]; rfl
        | j + 5, hj => omega
    · rw [List.length_append, List.length_singleton]; omega
    · rw [upd_ne (by omega), upd_ne (by omega), upd_ne (by omega), upd_ne (by omega), upd_ne (by omega), upd_ne (by omega)]
  obtain ⟨g', h1, r2⟩ := s_coldRoom hN hc r1 hv
  refine ⟨g', ?_, by rw [bx_uu] at r2; exact r2⟩
  unfold F_X12_cools
  have eX : (1898 : Int32) + nI (T 5).length * 5 = nI X := by rw [← hx]; exact ix2 1898 (T 5).length 5
  rw [gl 14 14 rfl (by decide), hm, lt_b, eX, gs (nI X + 0) X (by rw [Int32.add_zero]) (by omega), gs (nI X + 1) (X + 1) (nI_1 X) (by omega), gs (nI X + 2) (X + 2) (nI_add X 2) (by omega), gs (nI X + 3) (X + 3) (nI_add X 3) (by omega), gs (nI X + 4) (X + 4) (nI_add X 4) (by omega), gl 14 14 rfl (by decide), upd_ne (by omega), upd_ne (by omega), upd_ne (by omega), upd_ne (by omega), upd_ne (by omega), hm, nI_1, gs 14 14 rfl (by decide), h1, bd_t rfl]
/-- the tables behind one that goes for place -/
noncomputable def ycT (T : Nat → Rows) (V : Nat → Nat → Int32) (c e : Nat) : Nat → Rows := if stI (V 0) (V 4 0) (cl (rw' (T 4) e) 6) = 0 then va_up T 5 (trimC c (T 5 ++ [coldRow (cl (rw' (T 4) e) 7) (cl (rw' (T 4) e) 0) (cl (rw' (T 4) e) 1) (cl (rw' (T 4) e) 2) (cl (rw' (T 4) e) 6)])) else T
theorem ycT_ne {T : Nat → Rows} {V : Nat → Nat → Int32} {c e j : Nat} (h : j ≠ 5) : ycT T V c e j = T j := by
  unfold ycT
  split
  · exact va_up_ne _ _ h
  · rfl
noncomputable def yT (T : Nat → Rows) (V : Nat → Nat → Int32) (c e : Nat) : Nat → Rows := lgT (ycT T V c e) V e 7
noncomputable def yV (T : Nat → Rows) (V : Nat → Nat → Int32) (e : Nat) : Nat → Nat → Int32 := lgV T (va_up V 1 (tallyN (V 1) 7)) e
theorem s_yields {N : Nat} (hN : 65536 ≤ N) {c : Nat} (hc : c ≤ 20) {T : Nat → Rows} {V : Nat → Nat → Int32} {g : Nat → Int32} (h : RR T V g) (hE : iE (T 4)) (hv : V 0 6 = nI c) (hl : (T 5).length ≤ 20) {e : Nat} (he : e < (T 4).length) : ∃ g', F_X12_yields N g (nI e) = some g' ∧ RR (yT T V c e) (yV T V e) g' := by
  have hre := h.2.2.2.2.1
  have h200 := hre.2
  have r1 := s_led h (j := 7) (by decide)
  have re1 := r1.2.2.2.2.1
  generalize hg1 : upd g (20 + 7) (g (20 + 7) + 1) = g1 at r1 re1
  have rd : ∀ j, j < 9 → g1 (98 + e * 9 + j) = cl (mEn (rw' (T 4) e)) j := by
    intro j hj
    have := re1.1.2 e j (by rw [List.length_map]; exact he) hj
    rw [← Nat.add_assoc] at this
    rw [this, ← map_at mEn he]
  have eX : (98 : Int32) + nI e * 9 = nI (98 + e * 9) := ix2 98 e 9
  -- the end, from a state whose entries and numbers are these
  have fin : ∀ {T1 : Nat → Rows} {g2 : Nat → Int32}, RR T1 (va_up V 1 (tallyN (V 1) 7)) g2 → T1 4 = T 4 → ∃ g', J_X12_yields_81 N (nI e) g2 = some g' ∧ RR (lgT T1 V e 7) (yV T V e) g' := by
    intro T1 g2 r2 e4
    obtain ⟨g3, h3, r3⟩ := s_leaves hN r2 (by rw [e4]; exact hE) (e := e) (by rw [e4]; exact he) 7
    refine ⟨g3, ?_, ?_⟩
    · unfold J_X12_yields_81
      rw [h3, bd_t rfl]
    · have e1 : lgV T1 (va_up V 1 (tallyN (V 1) 7)) e = yV T V e := by unfold yV lgV; rw [e4]
      rw [e1] at r3
      exact r3
  unfold F_X12_yields
  rw [s_stale h.2.2.2.2.2.2.2.2.1 hre he, bd_t rfl]
  unfold yT ycT
  by_cases h1 : stI (V 0) (V 4 0) (cl (rw' (T 4) e) 6) = 0
  · rw [if_pos h1, if_pos h1]
    obtain ⟨g2, h2, r2⟩ := s_cools hN hc r1 hv hl (cl (rw' (T 4) e) 7) (cl (rw' (T 4) e) 0) (cl (rw' (T 4) e) 1) (cl (rw' (T 4) e) 2) (cl (rw' (T 4) e) 6)
    obtain ⟨g3, h3, r3⟩ := fin r2 rfl
    refine ⟨g3, ?_, r3⟩
    unfold J_X12_yields_13
    rw [lt_b, gl 27 27 rfl (by decide), gs 27 27 rfl (by decide), if_neg (by decide)]
    have hg1' : upd g 27 (g 27 + 1) = g1 := hg1
    rw [hg1', eX, gl (nI (98 + e * 9) + 0) (98 + e * 9 + 0) (by rw [Int32.add_zero]; rfl) (by omega), gl (nI (98 + e * 9) + 1) (98 + e * 9 + 1) (nI_1 _) (by omega), gl (nI (98 + e * 9) + 2) (98 + e * 9 + 2) (nI_add _ 2) (by omega), gl (nI (98 + e * 9) + 3) (98 + e * 9 + 3) (nI_add _ 3) (by omega), gl (nI (98 + e * 9) + 4) (98 + e * 9 + 4) (nI_add _ 4) (by omega), rd 0 (by decide), rd 1 (by decide), rd 2 (by decide), rd 3 (by decide), rd 4 (by decide)]
    have h2' : F_X12_cools N g1 (cl (mEn (rw' (T 4) e)) 0) (cl (mEn (rw' (T 4) e)) 1) (cl (mEn (rw' (T 4) e)) 2) (cl (mEn (rw' (T 4) e)) 3) (cl (mEn (rw' (T 4) e)) 4) = some g2 := h2
    rw [h2', bd_t rfl]
    exact h3
  · rw [if_neg h1, if_neg h1]
    obtain ⟨g3, h3, r3⟩ := fin r1 rfl
    refine ⟨g3, ?_, r3⟩
    unfold J_X12_yields_13
    rw [lt_b, gl 27 27 rfl (by decide), gs 27 27 rfl (by decide), if_pos rfl]
    have hg1' : upd g 27 (g 27 + 1) = g1 := hg1
    rw [hg1']
    exact h3
