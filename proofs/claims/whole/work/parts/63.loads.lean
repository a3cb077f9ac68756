/-! ===== loads: finding, counting, beginning to run: both sides ===== -/
theorem s_loadAt {g : Nat → Int32} {lr : Rows} (h : GT g 15 2003 20 lr) (hl : lr.length ≤ 256) {i : Nat} (hi : i < lr.length) (x : Int32) (c : Nat) (hx : x = nI c) (hc : c < 20) : F_X12_loadAt g (nI i) x = some (cl (rw' lr i) c) := by
  subst hx
  unfold F_X12_loadAt
  rw [gl (2003 + nI i * 20 + nI c) (2003 + (i * 20 + c)) (ix3 2003 i 20 c) (by omega), h.2 i c hi hc]
/-- loads as the class must hold them: those that run stand first -/
def rnN (line : Rows) : Nat := line.countP (fun r => decide (cl r 1 = 1))
def iL (line : Rows) : Prop := (∀ r ∈ line, r.length = 3 ∧ Vk (cl r 0)) ∧ (∀ i, i < line.length → cl (rw' line i) 1 = if i < rnN line then 1 else 0) ∧ line.Pairwise (fun r q => ¬ cl r 0 = cl q 0)
theorem rnN_le (line : Rows) : rnN line ≤ line.length := List.countP_le_length
theorem iL.at {line : Rows} (h : iL line) {i : Nat} (hi : i < line.length) : (rw' line i).length = 3 ∧ Vk (cl (rw' line i) 0) := by
  rw [show rw' line i = line[i] from q_getD_lt hi]
  exact h.1 _ (List.getElem_mem hi)
theorem howMany_eq (rows : Rows) (x : Int32) (c : Nat) (hx : x = nI c) (hc : c < 2 ^ 31) (v : Int32) : thowMany rows x v = nI (rows.countP (fun r => decide (cl r c = v))) := by
  unfold thowMany
  congr 2
  funext r
  rw [rc r c hx hc]
theorem n_running (line : Rows) : F_X3_running line = some (nI (rnN line)) := by
  unfold F_X3_running
  rw [lt_b, howMany_eq line 1 1 rfl (by decide)]
  rfl
theorem s_loadsL {g : Nat → Int32} {line waits lr : Rows} (hG : GT g 15 2003 20 lr) (hl : lr.length = line.length) (h256 : line.length ≤ 256) (hLR : ∀ i, i < line.length → LR waits (rw' line i) (rw' lr i)) (N : Nat) : ∀ (n i a : Nat), i ≤ line.length → line.length < n + i → L_X12_loads_4 N (fun x2 => some x2) 2 g n (nI a) (nI i) = some (nI (a + rnN (line.drop i))) := by
  intro n
  induction n with
  | zero => intro i a h1 h2; omega
  | succ n ih =>
    intro i a h1 h2
    have hm : g 15 = nI line.length := by rw [hG.1, hl]
    rw [e_X12_loads_4]
    unfold K_X12_loads_4
    rw [gl 15 15 rfl (by decide), hm]
    by_cases h5 : i = line.length
    · subst h5
      rw [if_pos (nI_le (Nat.le_refl _) (by omega)), List.drop_length]
      rfl
    have h6 : i < line.length := by omega
    rw [if_neg (nI_ge h6 (by omega)), s_loadAt hG (by omega) (by omega) 1 1 rfl (by decide), bd_t rfl, drop_get h6]
    have e1 : cl (rw' lr i) 1 = if cl (rw' line i) 1 = 1 then 2 else 1 := (hLR i h6).2.1
    rw [e1]
    unfold J_X12_loads_31 rnN
    simp only [lt_b]
    rw [List.countP_cons, nI_1]
    have ih1 := ih (i + 1) (a + 1) (by omega) (by omega)
    have ih0 := ih (i + 1) a (by omega) (by omega)
    unfold rnN at ih1 ih0
    by_cases h7 : cl (rw' line i) 1 = 1
    · have h7' : (rw' line i).getD 1 0 = 1 := h7
      rw [if_pos h7, if_pos rfl, nI_1, ih1, if_pos (decide_eq_true h7)]
      congr 2
      omega
    · rw [if_neg h7, if_neg (by decide), Int32.add_zero, nI_1, ih0, if_neg (fun q => h7 (of_decide_eq_true q))]
      try rfl
theorem s_loads {N : Nat} (hN : 65536 ≤ N) {g : Nat → Int32} {line waits : Rows} (h : RL g line waits) : F_X12_loads N g 2 = some (nI (rnN line)) := by
  obtain ⟨lr, hG, hl, h256, hLR⟩ := h
  unfold F_X12_loads
  have := s_loadsL hG hl h256 hLR N N 0 0 (Nat.zero_le _) (by omega)
  rw [nI_0, List.drop_zero, Nat.zero_add] at this
  exact this
theorem s_loadOfL {g : Nat → Int32} {line waits lr : Rows} (hG : GT g 15 2003 20 lr) (hl : lr.length = line.length) (h256 : line.length ≤ 256) (hLR : ∀ i, i < line.length → LR waits (rw' line i) (rw' lr i)) (hI : iL line) {k : Int32} (hk : Vk k) (N : Nat) : ∀ (n i : Nat), i ≤ line.length → line.length < n + i → L_X12_loadOf_2 N (fun _ => some (-1)) (fun x2 => some x2) (kc k) g n (nI i) = some (oI ((fk 0 (line.drop i) k).map (fun j => j + i))) := by
  intro n
  induction n with
  | zero => intro i h1 h2; omega
  | succ n ih =>
    intro i h1 h2
    have hm : g 15 = nI line.length := by rw [hG.1, hl]
    rw [e_X12_loadOf_2]
    unfold K_X12_loadOf_2
    rw [gl 15 15 rfl (by decide), hm]
    by_cases h5 : i = line.length
    · subst h5
      rw [if_pos (nI_le (Nat.le_refl _) (by omega)), List.drop_length]
      rfl
    have h6 : i < line.length := by omega
    rw [if_neg (nI_ge h6 (by omega)), s_loadAt hG (by omega) (by omega) 0 0 rfl (by decide), bd_t rfl, drop_get h6]
    have e1 : cl (rw' lr i) 0 = kc (cl (rw' line i) 0) := (hLR i h6).1
    rw [e1]
    unfold fk
    rw [List.findIdx?_cons]
    by_cases h7 : cl (rw' line i) 0 = k
    · rw [if_pos ((kc_inj (hI.at h6).2 hk).mpr h7), if_pos (decide_eq_true h7)]
      show some (nI i) = some (nI (0 + i))
      rw [Nat.zero_add]
    · rw [if_neg (fun q => h7 ((kc_inj (hI.at h6).2 hk).mp q)), if_neg (fun q => h7 (of_decide_eq_true q)), lt_b, nI_1, ih (i + 1) (by omega) (by omega)]
      unfold fk
      rw [Option.map_map]
      congr 3
      funext j
      show j + (i + 1) = j + 1 + i
      omega
theorem s_loadOf {N : Nat} (hN : 65536 ≤ N) {g : Nat → Int32} {line waits : Rows} (h : RL g line waits) (hI : iL line) {k : Int32} (hk : Vk k) : F_X12_loadOf N g (kc k) = some (oI (fk 0 line k)) := by
  obtain ⟨lr, hG, hl, h256, hLR⟩ := h
  unfold F_X12_loadOf
  have := s_loadOfL hG hl h256 hLR hI hk N N 0 (Nat.zero_le _) (by omega)
  rw [nI_0, List.drop_zero] at this
  rw [this]
  congr 2
  cases fk 0 line k <;> rfl
theorem n_loadRow (line : Rows) (k : Int32) : F_X3_rowOf line k = some (oI (fk 0 line k)) := by
  unfold F_X3_rowOf
  rw [lt_b, tfind_oI line 0 0 rfl (by decide)]
noncomputable def pushT (told : Rows) (k : Int32) : Rows := keepR 60 told ++ [[k]]
theorem n_noteTold {N : Nat} (hN : 65536 ≤ N) {k : Int32} (h : Vk0 k) (now : Int32) (book told : Rows) (s : Nat → Int32) : F_X2_noteTold N now book told s k = some (pushK book 3 now k, pushT told k, tallyN s 2) := by
  unfold F_X2_noteTold
  have e := n_note hN h now book s 3 (by decide)
  have e' : F_X2_note N now book s 3 k = some (pushK book 3 now k, tallyN s 2) := e
  rw [lt_b, tpush1, e', bd_t rfl]
  rfl
/-- the tables behind a load that begins to run -/
noncomputable def rnT (T : Nat → Rows) (V : Nat → Nat → Int32) (i : Nat) : Nat → Rows := va_up (va_up (va_up T 6 (((T 6).modify i (fun r => r.set 1 1)).modify i (fun r => r.set 2 (V 4 0)))) 1 (pushT (T 1) (cl (rw' (T 6) i) 0))) 0 (pushK (T 0) 3 (V 4 0) (cl (rw' (T 6) i) 0))
theorem run_row {line : Rows} (hI : iL line) {i : Nat} (hi : i < line.length) (now : Int32) {j : Nat} (hj : j < line.length) : rw' ((line.modify i (fun r => r.set 1 1)).modify i (fun r => r.set 2 now)) j = if j = i then [cl (rw' line i) 0, 1, now] else rw' line j := by
  rw [modD (by rw [List.length_modify]; exact hj), modD hj]
  by_cases q : j = i
  · subst q
    rw [if_pos rfl, if_pos rfl, if_pos rfl]
    have h3 := (hI.at hj).1
    match hr : rw' line j, h3 with
    | [a, b, c], _ => rfl
  · rw [if_neg q, if_neg q, if_neg q]

theorem s_run1 {N : Nat} (hN : 65536 ≤ N) {T : Nat → Rows} {V : Nat → Nat → Int32} {g : Nat → Int32} (h : RR T V g) (hI : iL (T 6)) {i : Nat} (hi : i < (T 6).length) :
    ∃ (g9 g12 : Nat → Int32) (o : Int32 × (Nat → Int32)) (g' : Nat → Int32), g9 = upd (upd g (2003 + (i * 20 + 1)) 2) (2003 + (i * 20 + 2)) (V 4 0) ∧ F_X12_slot N g9 16 8467 1 60 = some o ∧ F_X12_loadAt o.2 (nI i) 0 = some (kc (cl (rw' (T 6) i) 0)) ∧ (∀ {β : Type} (b : (Nat → Int32) → Option β), sto o.2 8787 o.1 (kc (cl (rw' (T 6) i) 0)) b = b g12) ∧ F_X12_loadAt (upd g12 22 (g12 22 + 1)) (nI i) 0 = some (kc (cl (rw' (T 6) i) 0)) ∧ F_X12_happens N (upd g12 22 (g12 22 + 1)) 3 (kc (cl (rw' (T 6) i) 0)) = some g' ∧ RR (rnT T V i) (va_up V 1 (tallyN (V 1) 2)) g' := by
  have hvk := (hI.at hi).2
  obtain ⟨lr, hG, hl, h256, hLR⟩ := h.2.2.2.2.2.2.1
  have hil : i < lr.length := by omega
  generalize hg9 : upd (upd g (2003 + (i * 20 + 1)) 2) (2003 + (i * 20 + 2)) (V 4 0) = g9
  have hq20 : (rw' lr i).length = 20 := (hLR i hi).2.2.2.2.2.2
  have G1 := hG.set (i := i) (j := 1) (Or.inl (by decide)) hil (by decide) hq20 2
  have hl1 : (lr.modify i (fun r => r.set 1 2)).length = lr.length := List.length_modify ..
  have hq1 : rw' (lr.modify i (fun r => r.set 1 2)) i = (rw' lr i).set 1 2 := by rw [modD hil, if_pos rfl]
  have G2 := G1.set (i := i) (j := 2) (Or.inl (by decide)) (by rw [hl1]; exact hil) (by decide) (by rw [hq1, List.length_set]; exact hq20) (V 4 0)
  rw [hg9] at G2
  generalize hline : ((T 6).modify i (fun r => r.set 1 1)).modify i (fun r => r.set 2 (V 4 0)) = line'
  have hll : line'.length = (T 6).length := by rw [← hline, List.length_modify, List.length_modify]
  have r9 : RR (va_up (va_up T 6 line') 7 (T 7)) V g9 := by
    refine h.uRL ⟨_, G2, by rw [List.length_modify, hl1, hll]; exact hl, by omega, fun j hj => ?_⟩ (fun p hp hq => by rw [← hg9, upd_ne (by omega), upd_ne (by omega)])
    rw [hll] at hj
    have e1 : line'.getD j [] = if j = i then [cl (rw' (T 6) i) 0, 1, V 4 0] else rw' (T 6) j := by rw [← hline]; exact run_row hI hi (V 4 0) hj
    have e2 : ((lr.modify i (fun r => r.set 1 2)).modify i (fun r => r.set 2 (V 4 0))).getD j [] = if j = i then ((rw' lr i).set 1 2).set 2 (V 4 0) else rw' lr j := by
      show rw' _ j = _
      rw [modD (by rw [hl1]; omega), modD (by omega)]
      by_cases q : j = i
      · subst q; rw [if_pos rfl, if_pos rfl, if_pos rfl]
      · rw [if_neg q, if_neg q, if_neg q]
    rw [e1, e2]
    by_cases q : j = i
    · subst q
      rw [if_pos rfl, if_pos rfl]
      obtain ⟨a1, a2, a3, a4, a5, a6, a7⟩ := hLR j hj
      have s : ∀ m, m < 20 → (((rw' lr j).set 1 2).set 2 (V 4 0)).getD m 0 = if m = 2 then V 4 0 else if m = 1 then 2 else (rw' lr j).getD m 0 := by
        intro m hm
        rw [q_setD (by rw [List.length_set]; omega), q_setD (by omega)]
      refine ⟨by rw [s 0 (by decide), if_neg (by decide), if_neg (by decide)]; exact a1, by rw [s 1 (by decide), if_neg (by decide), if_pos rfl]; rfl, fun _ => by rw [s 2 (by decide), if_pos rfl]; rfl, by rw [s 3 (by decide), if_neg (by decide), if_neg (by decide)]; exact a4, a5, fun m hm => ?_, by rw [List.length_set, List.length_set]; exact a7⟩
      have hm16 : m < 16 := Nat.lt_of_lt_of_le hm a5
      rw [s (4 + m) (by omega), if_neg (by omega), if_neg (by omega)]
      exact a6 m hm
    · rw [if_neg q, if_neg q]
      exact hLR j hj
  have e7 : va_up (va_up T 6 line') 7 (T 7) = va_up T 6 line' := va_same (va_up T 6 line') 7
  rw [e7] at r9
  obtain ⟨g1, h1, h2, h3, h4⟩ := g_slot hN (most := 60) r9.2.1.1 (by decide) (by decide) (by rw [List.length_map]; exact r9.2.1.2) (by decide) (by decide) (Or.inl (by decide))
  have hT1 : (va_up T 6 line') 1 = T 1 := rfl
  rw [hT1] at h1 h2 h3
  have h60 : (T 1).length ≤ 60 := h.2.1.2
  have hkl := keepR_len (most := 60) h60 (by decide)
  rw [keepR_map, List.length_map, Nat.mul_one] at h1
  rw [keepR_map, List.length_map] at h2
  rw [keepR_map, List.length_map] at h3
  generalize hX : 8467 + (keepR 60 (T 1)).length = X at h1
  have r12 : RR (va_up (va_up T 6 line') 1 (pushT (T 1) (cl (rw' (T 6) i) 0))) V (upd g1 X (kc (cl (rw' (T 6) i) 0))) := by
    refine r9.uRT ⟨?_, ?_⟩ (fun p hp hq => ?_)
    · unfold pushT
      rw [List.map_append]
      refine GT.pushed (g' := g1) (by rw [List.length_map]; exact h2) (by rw [List.length_map]; exact h3) (upd_ne (by omega)) (fun p h5 h6 => ?_) (fun j hj => ?_)
      · rw [List.length_map] at h6; exact upd_ne (by omega)
      · rw [List.length_map]
        have : j = 0 := by omega
        subst this
        rw [show 8467 + ((keepR 60 (T 1)).length * 1 + 0) = X by omega, upd_at]
        rfl
    · unfold pushT; rw [List.length_append, List.length_singleton]; omega
    · rw [upd_ne (by omega)]
      exact h4 p (by omega) (by omega)
  have r14 := s_led r12 (j := 2) (by decide)
  obtain ⟨g', h5, r16⟩ := s_happens hN r14 (Or.inr hvk) 3
  have key : ∀ {T1 : Nat → Rows} {V1 : Nat → Nat → Int32} {gg : Nat → Int32}, RR T1 V1 gg → T1 6 = line' → F_X12_loadAt gg (nI i) 0 = some (kc (cl (rw' (T 6) i) 0)) := by
    intro T1 V1 gg rr e6
    obtain ⟨lr2, hG2, hl2, hm2, hLR2⟩ := rr.2.2.2.2.2.2.1
    rw [e6] at hl2 hm2 hLR2
    rw [s_loadAt hG2 (by omega) (by omega) 0 0 rfl (by decide)]
    have := (hLR2 i (by omega)).1
    have e1 : line'.getD i [] = [cl (rw' (T 6) i) 0, 1, V 4 0] := by rw [← hline]; have := run_row hI hi (V 4 0) hi; rw [if_pos rfl] at this; exact this
    rw [e1] at this
    rw [show cl (rw' lr2 i) 0 = kc (cl (rw' (T 6) i) 0) from this]
  have hr1 : RR (va_up (va_up T 6 line') 1 (pushT (T 1) (cl (rw' (T 6) i) 0))) V (upd g1 X (kc (cl (rw' (T 6) i) 0))) := r12
  refine ⟨g9, upd g1 X (kc (cl (rw' (T 6) i) 0)), (nI X, g1), g', rfl, h1, ?_, fun b => gs (nI X) X rfl (by omega), key r14 rfl, h5, ?_⟩
  · -- the slot leaves the loads as they are
    have hG9 := r9.2.2.2.2.2.2.1
    have hG1 : RL g1 line' (T 7) := RL.frame (line := line') (waits := T 7) hG9 (fun p hp => h4 p (by omega) (by omega))
    obtain ⟨lr2, hGG, hl2, hm2, hLR2⟩ := hG1
    show F_X12_loadAt g1 (nI i) 0 = _
    rw [s_loadAt hGG (by omega) (by omega) 0 0 rfl (by decide)]
    have := (hLR2 i (by omega)).1
    have e1 : line'.getD i [] = [cl (rw' (T 6) i) 0, 1, V 4 0] := by rw [← hline]; have := run_row hI hi (V 4 0) hi; rw [if_pos rfl] at this; exact this
    rw [e1] at this
    rw [show cl (rw' lr2 i) 0 = kc (cl (rw' (T 6) i) 0) from this]
  · unfold rnT
    rw [hline]
    exact r16
