/-! ===== who goes first; one goes: both sides ===== -/
theorem kc_inj0 {k k' : Int32} (h : Vk k) (h' : Vk0 k') : kc k = kc k' ↔ k = k' := by
  rcases h' with rfl | h'
  · rw [kc_0]
    exact ⟨fun e => absurd e h.kr.ne0.2, fun e => absurd e h.kr.ne0.1⟩
  · exact kc_inj h h'
def stp (vals : Nat → Int32) (now : Int32) (rows : Rows) (sp : Int32) (b : Option Nat) (i : Nat) : Option Nat := if cl (rw' rows i) 7 = sp then b else match b with
  | none => some i
  | some j => if soI vals now (rw' rows i) (rw' rows j) = 0 then some j else some i
/-- the first to go of the first n, but for that of a key -/
def ftg (vals : Nat → Int32) (now : Int32) (rows : Rows) (sp : Int32) : Nat → Option Nat
  | 0 => none
  | i + 1 => stp vals now rows sp (ftg vals now rows sp i) i
theorem ftg_lt {vals : Nat → Int32} {now : Int32} {rows : Rows} {sp : Int32} : ∀ {n j : Nat}, ftg vals now rows sp n = some j → j < n ∧ ¬ cl (rw' rows j) 7 = sp
  | 0, j, h => by cases h
  | n + 1, j, h => by
    have ih := @ftg_lt vals now rows sp n
    unfold ftg stp at h
    by_cases h1 : cl (rw' rows n) 7 = sp
    · rw [if_pos h1] at h
      exact ⟨by have := (ih h).1; omega, (ih h).2⟩
    · rw [if_neg h1] at h
      cases hb : ftg vals now rows sp n with
      | none => rw [hb] at h; cases h; exact ⟨by omega, h1⟩
      | some q =>
        rw [hb] at h
        dsimp only at h
        by_cases h2 : soI vals now (rw' rows n) (rw' rows q) = 0
        · rw [if_pos h2] at h; cases h; exact ⟨by have := (ih hb).1; omega, (ih hb).2⟩
        · rw [if_neg h2] at h; cases h; exact ⟨by omega, h1⟩
theorem oI_m1 {o : Option Nat} (h : ∀ j, o = some j → j < 2 ^ 31) : oI o = -1 ↔ o = none := by
  cases o with
  | none => exact ⟨fun _ => rfl, fun _ => rfl⟩
  | some j =>
    refine ⟨fun e => ?_, fun e => by cases e⟩
    have h1 : nI j = -1 := e
    have h2 := nI_pos (h j rfl)
    rw [h1] at h2
    exact absurd (by decide) h2
theorem oI_neg {o : Option Nat} (h : ∀ j, o = some j → j < 2 ^ 31) : oI o < 0 ↔ o = none := by
  cases o with
  | none => exact ⟨fun _ => rfl, fun _ => by decide⟩
  | some j => exact ⟨fun e => absurd e (nI_pos (h j rfl)), fun e => by cases e⟩
theorem n_nextL {N : Nat} (hN : 65536 ≤ N) {dm : Nat} {vals : Nat → Int32} {now : Int32} {rows : Rows} (hl : rows.length < 65536) (sp : Int32) : ∀ (n i : Nat), i ≤ rows.length → rows.length < n + i → L_X0_nextToGo_5 N dm (fun x3 => some x3) (-1) sp vals now rows n (oI (ftg vals now rows sp i)) (nI i) = some (oI (ftg vals now rows sp rows.length)) := by
  intro n
  induction n with
  | zero => intro i h3 h4; omega
  | succ n ih =>
    intro i h3 h4
    rw [e_X0_nextToGo_5]
    unfold K_X0_nextToGo_5 tsize
    rw [lt_b]
    by_cases h5 : i = rows.length
    · subst h5
      rw [if_pos (nI_le (Nat.le_refl _) (by omega))]
    have h6 : i < rows.length := by omega
    have hb : ∀ j, ftg vals now rows sp i = some j → j < 2 ^ 31 := fun j hj => by have := (ftg_lt hj).1; omega
    have ih' := ih (i + 1) (by omega) (by omega)
    rw [if_neg (nI_ge h6 (by omega)), lt_b, tg i 7 7 rfl (by omega) (by decide)]
    unfold J_X0_nextToGo_50 J_X0_nextToGo_65 J_X0_nextToGo_68
    simp only [lt_b, nI_1]
    rw [show ftg vals now rows sp (i + 1) = stp vals now rows sp (ftg vals now rows sp i) i from rfl] at ih'
    unfold stp at ih'
    by_cases h7 : cl (rw' rows i) 7 = sp
    · rw [if_pos h7] at ih' ⊢
      exact ih'
    · rw [if_neg h7] at ih' ⊢
      rw [if_pos trivial]
      cases ho : ftg vals now rows sp i with
      | none =>
        rw [ho] at ih'
        rw [if_pos (show oI none = -1 from rfl)]
        exact ih'
      | some j =>
        rw [ho] at ih' hb
        have hj := hb j rfl
        rw [if_neg (fun e => by have := (oI_m1 hb).mp e; cases this)]
        show bd (F_X0_goesAhead N dm vals now rows (nI i) (nI j)) _ = _
        rw [n_ahead hN (by omega) hj, bd_t rfl]
        dsimp only at ih' ⊢
        by_cases h8 : soI vals now (rw' rows i) (rw' rows j) = 0
        · rw [if_pos h8] at ih' ⊢
          exact ih'
        · rw [if_neg h8] at ih' ⊢
          exact ih'
theorem n_next {N : Nat} (hN : 65536 ≤ N) {dm : Nat} {vals : Nat → Int32} {now : Int32} {rows : Rows} (hl : rows.length < 65536) (sp : Int32) : F_X0_nextToGo N dm vals now rows (-1) sp = some (oI (ftg vals now rows sp rows.length)) := by
  unfold F_X0_nextToGo
  have := n_nextL hN (dm := dm) (vals := vals) (now := now) hl sp N 0 (Nat.zero_le _) (by omega)
  rw [nI_0] at this
  exact this
theorem s_firstL {g vals sc : Nat → Int32} (h0 : R0 g vals sc) {ents : Rows} (h : RE g ents) (hE : iE ents) {sp : Int32} (hs : Vk0 sp) (N : Nat) : ∀ (n i : Nat), i ≤ ents.length → ents.length < n + i → L_X12_firstToGo_4 N (fun x2 => some x2) (kc sp) g n (oI (ftg vals (sc 0) ents sp i)) (nI i) = some (oI (ftg vals (sc 0) ents sp ents.length)) := by
  have h2 := h.2
  intro n
  induction n with
  | zero => intro i h3 h4; omega
  | succ n ih =>
    intro i h3 h4
    rw [e_X12_firstToGo_4]
    unfold K_X12_firstToGo_4
    rw [gl 13 13 rfl (by decide), s_many h]
    by_cases h5 : i = ents.length
    · subst h5
      rw [if_pos (nI_le (Nat.le_refl _) (by omega))]
    have h6 : i < ents.length := by omega
    have hb : ∀ j, ftg vals (sc 0) ents sp i = some j → j < 2 ^ 31 := fun j hj => by have := (ftg_lt hj).1; omega
    have hb2 : ∀ j, ftg vals (sc 0) ents sp i = some j → j < ents.length := fun j hj => by have := (ftg_lt hj).1; omega
    have ih' := ih (i + 1) (by omega) (by omega)
    rw [if_neg (nI_ge h6 (by omega)), s_at h h6 0 0 rfl (by decide), bd_t rfl]
    unfold J_X12_firstToGo_38 J_X12_firstToGo_40
    simp only [lt_b, nI_1]
    have e1 : cl (mEn (rw' ents i)) 0 = kc (cl (rw' ents i) 7) := rfl
    rw [e1]
    rw [show ftg vals (sc 0) ents sp (i + 1) = stp vals (sc 0) ents sp (ftg vals (sc 0) ents sp i) i from rfl] at ih'
    unfold stp at ih'
    by_cases h7 : cl (rw' ents i) 7 = sp
    · rw [if_pos h7] at ih'
      rw [if_pos ((kc_inj0 (hE.at h6).2 hs).mpr h7)]
      exact ih'
    · rw [if_neg h7] at ih'
      rw [if_neg (fun e => h7 ((kc_inj0 (hE.at h6).2 hs).mp e))]
      cases ho : ftg vals (sc 0) ents sp i with
      | none =>
        rw [ho] at ih'
        rw [if_pos (show oI none < 0 by decide)]
        exact ih'
      | some j =>
        rw [ho] at ih' hb hb2
        rw [if_neg (fun e => by have := (oI_neg hb).mp e; cases this)]
        show bd (F_X12_isSooner g (nI i) (nI j)) _ = _
        rw [s_sooner h0 h h6 (hb2 j rfl), bd_t rfl]
        dsimp only at ih' ⊢
        by_cases h8 : soI vals (sc 0) (rw' ents i) (rw' ents j) = 0
        · rw [if_pos h8] at ih' ⊢
          exact ih'
        · rw [if_neg h8] at ih' ⊢
          exact ih'
theorem s_first {N : Nat} (hN : 65536 ≤ N) {g vals sc : Nat → Int32} (h0 : R0 g vals sc) {ents : Rows} (h : RE g ents) (hE : iE ents) {sp : Int32} (hs : Vk0 sp) : F_X12_firstToGo N g (kc sp) = some (oI (ftg vals (sc 0) ents sp ents.length)) := by
  have h2 := h.2
  unfold F_X12_firstToGo
  have := s_firstL h0 h hE hs N N 0 (Nat.zero_le _) (by omega)
  rw [nI_0] at this
  exact this
theorem map_erase {f : List Int32 → List Int32} {rows : Rows} {i : Nat} : (rows.map f).eraseIdx i = (rows.eraseIdx i).map f := by
  rw [List.eraseIdx_eq_take_drop_succ, List.eraseIdx_eq_take_drop_succ, List.map_append, List.map_take, List.map_drop]
/-- an entry has gone: the tables behind it -/
noncomputable def lgW (T : Nat → Rows) (V : Nat → Nat → Int32) (e : Nat) : Nat → Rows := if cl (rw' (T 4) e) 8 = 0 then T else va_up (va_up T 2 (pushW (T 2) (cl (rw' (T 4) e) 7) (cl (rw' (T 4) e) 0))) 0 (pushK (T 0) 11 (V 4 0) (cl (rw' (T 4) e) 7))
noncomputable def lgV (T : Nat → Rows) (V : Nat → Nat → Int32) (e : Nat) : Nat → Nat → Int32 := if cl (rw' (T 4) e) 8 = 0 then V else va_up V 1 (tallyN (V 1) 11)
noncomputable def lgT (T : Nat → Rows) (V : Nat → Nat → Int32) (e : Nat) (kind : Int32) : Nat → Rows := va_up (va_up (lgW T V e) 0 (pushK (lgW T V e 0) kind (V 4 0) (cl (rw' (T 4) e) 7))) 4 ((T 4).eraseIdx e)
theorem tremove_nI {rows : Rows} {i : Nat} (h : i < 2 ^ 31) : tremove rows (nI i) = rows.eraseIdx i := by
  unfold tremove
  rw [if_neg (nI_pos h), nI_clamp h]
theorem n_letGo {N : Nat} (hN : 65536 ≤ N) {T : Nat → Rows} {V : Nat → Nat → Int32} (hE : iE (T 4)) {e : Nat} (he : e < (T 4).length) (he2 : e < 2 ^ 31) (kind : Nat) (hk : kind < 14) : F_X6_letGo N (V 4 0) (T 0) (T 2) (V 1) (T 4) (nI e) (nI kind) = some (lgT T V e (nI kind) 0, lgT T V e (nI kind) 2, tlk (lgV T V e 1) kind, lgT T V e (nI kind) 4) := by
  have hv := (hE.at he).2
  unfold F_X6_letGo F_X0_get F_X0_isDirty J_X6_letGo_39 F_X0_remove
  simp only [lt_b, bd_some]
  rw [tg e 7 7 rfl he2 (by decide), tg e 8 8 rfl he2 (by decide), tg e 0 0 rfl he2 (by decide), n_noteWritten hN (Or.inr hv), tremove_nI he2]
  simp only [bd_some]
  rw [n_note hN (Or.inr hv) _ _ _ kind hk, n_note hN (Or.inr hv) _ _ _ kind hk]
  simp only [bd_some]
  unfold lgT lgW lgV
  by_cases h1 : cl (rw' (T 4) e) 8 = 0
  · rw [if_pos h1, if_pos h1, if_pos h1]
    rw [bd_some, if_pos rfl]
    rfl
  · rw [if_neg h1, if_neg h1, if_neg h1]
    rw [bd_some, if_neg (by decide)]
    rfl
theorem s_leaves {N : Nat} (hN : 65536 ≤ N) {T : Nat → Rows} {V : Nat → Nat → Int32} {g : Nat → Int32} (h : RR T V g) (hE : iE (T 4)) {e : Nat} (he : e < (T 4).length) (kind : Int32) : ∃ g', F_X12_leaves N g (nI e) kind = some g' ∧ RR (lgT T V e kind) (lgV T V e) g' := by
  have hv := (hE.at he).2
  have hre := h.2.2.2.2.1
  have h200 := hre.2
  -- the rest, from any state whose entries are the same
  have rest : ∀ {T1 : Nat → Rows} {V1 : Nat → Nat → Int32} {g1 : Nat → Int32}, RR T1 V1 g1 → T1 4 = T 4 → V1 4 0 = V 4 0 → ∃ g', J_X12_leaves_26 N (nI e) kind g1 = some g' ∧ RR (va_up (va_up T1 0 (pushK (T1 0) kind (V 4 0) (cl (rw' (T 4) e) 7))) 4 ((T 4).eraseIdx e)) V1 g' := by
    intro T1 V1 g1 r1 e4 ev
    have re1 := r1.2.2.2.2.1
    rw [e4] at re1
    obtain ⟨g2, h1, r2⟩ := s_happens hN r1 (Or.inr hv) kind
    rw [ev] at r2
    have re2 : RE g2 (T 4) := by
      have := r2.2.2.2.2.1
      have e : va_up T1 0 (pushK (T1 0) kind (V 4 0) (cl (rw' (T 4) e) 7)) 4 = T 4 := e4
      rw [e] at this
      exact this
    obtain ⟨g3, h3, h4, h5⟩ := g_takesOut hN re2.1 (by decide) (by rw [List.length_map]; omega) (by decide) (Or.inl (by decide)) (i := e) (by rw [List.length_map]; exact he)
    refine ⟨g3, ?_, r2.uRE ⟨by rw [map_erase] at h4; exact h4, by have := List.length_eraseIdx_le (T 4) e; omega⟩ (fun p hp hq => h5 p (by omega) (by rw [List.length_map]; omega))⟩
    unfold J_X12_leaves_26
    have h1' : F_X12_happens N g1 kind (cl (mEn (rw' (T 4) e)) 0) = some g2 := h1
    have h3' : F_X12_takesOut N g2 13 98 9 (nI e) = some g3 := h3
    rw [s_at re1 he 0 0 rfl (by decide), bd_t rfl, h1', bd_t rfl, h3', bd_t rfl]
  unfold F_X12_leaves
  rw [s_at hre he 8 8 rfl (by decide), bd_t rfl]
  have e8 : cl (mEn (rw' (T 4) e)) 8 = cl (rw' (T 4) e) 8 := rfl
  rw [e8]
  unfold lgT lgW lgV
  by_cases h1 : cl (rw' (T 4) e) 8 = 0
  · rw [if_pos h1, if_pos h1, if_pos h1]
    exact rest h rfl rfl
  · rw [if_neg h1, if_neg h1, if_neg h1, s_at hre he 0 0 rfl (by decide), bd_t rfl, s_at hre he 1 1 rfl (by decide), bd_t rfl]
    obtain ⟨g1, h2, r1⟩ := s_writes hN h hv (cl (rw' (T 4) e) 0)
    have h2' : F_X12_writes N g (cl (mEn (rw' (T 4) e)) 0) (cl (mEn (rw' (T 4) e)) 1) = some g1 := h2
    rw [h2', bd_t rfl]
    exact rest r1 rfl rfl
