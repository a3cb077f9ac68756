/-! ===== letting one in: both sides ===== -/
noncomputable def may (vals : Nat → Int32) (now : Int32) (ents : Rows) (cnt : Nat → Int32) (k w : Int32) : Int32 :=
  if w ≤ vals 0 then (if vals 5 = 0 then 1 else if vals 0 < wS ents + w then (match ftg vals now ents 0 ents.length with
    | none => 1
    | some e => if stI vals now (cl (rw' ents e) 6) = 0 then (if lea cnt (hn k) 4 ≤ cl (rw' ents e) 3 then 0 else 1) else 1) else 1) else 0
theorem may_01 (vals : Nat → Int32) (now : Int32) (ents : Rows) (cnt : Nat → Int32) (k w : Int32) : may vals now ents cnt k w = 0 ∨ may vals now ents cnt k w = 1 := by
  unfold may
  split
  · split
    · exact Or.inr rfl
    · split
      · split
        · exact Or.inr rfl
        · split
          · split
            · exact Or.inl rfl
            · exact Or.inr rfl
          · exact Or.inr rfl
      · exact Or.inr rfl
  · exact Or.inl rfl
theorem may_le {vals : Nat → Int32} {now : Int32} {ents : Rows} {cnt : Nat → Int32} {k w : Int32} (h : may vals now ents cnt k w ≠ 0) : w ≤ vals 0 := by
  unfold may at h
  by_cases q : w ≤ vals 0
  · exact q
  · rw [if_neg q] at h; exact absurd rfl h
/-- with too much weight for a newcomer somebody is there -/
theorem may_some {vals : Nat → Int32} {now : Int32} {ents : Rows} {esf : Int32} (hI : iS ents esf) {room w : Nat} (hw : w ≤ room) (hr : room ≤ 200) (h200 : ents.length ≤ 200) (h : nI room < wS ents + nI w) : ∃ e, ftg vals now ents 0 ents.length = some e := by
  have hwl := wSN_le hI.cr
  rw [wS_eq hI.cr, nI_add, nI_ltI (by omega) (by omega)] at h
  refine ftg_some _ ?_
  have hl : 0 < ents.length := by
    rcases Nat.eq_zero_or_pos ents.length with q | q
    · have : ents = [] := List.eq_nil_of_length_eq_zero q
      rw [this] at h
      have h0 : wSN [] = 0 := rfl
      omega
    · exact q
  exact ⟨0, hl, (hI.at hl).2.1.1.kr.ne0.1⟩
theorem n_may {N : Nat} (hN : 65536 ≤ N) {vals : Nat → Int32} {now : Int32} {ents : Rows} {cnt : Nat → Int32} {esf : Int32} (hI : iS ents esf) {room w : Nat} (hv : vals 0 = nI room) (hr : room ≤ 200) (hw20 : w ≤ 20) (h200 : ents.length ≤ 200) {k : Int32} (hk : Vk k) : F_X6_mayComeIn N vals now ents cnt k (nI w) = some (may vals now ents cnt k (nI w)) := by
  unfold F_X6_mayComeIn may
  rw [n_value 0 0 rfl (by decide), bd_t rfl, n_value 5 5 rfl (by decide), bd_t rfl, n_weight hN (by omega), bd_t rfl, n_next hN (by omega), bd_t rfl, n_least hN (Or.inr hk)]
  by_cases h1 : nI w ≤ vals 0
  · rw [if_pos h1, if_pos h1]
    by_cases h2 : vals 5 = 0
    · rw [if_pos h2, if_pos h2]
    · rw [if_neg h2, if_neg h2]
      by_cases h3 : vals 0 < wS ents + nI w
      · rw [if_pos h3, if_pos h3]
        rw [hv] at h1 h3
        obtain ⟨e, he⟩ := may_some (vals := vals) (now := now) hI ((nI_leI (by omega) (by omega)).mp h1) hr h200 h3
        have hel := (ftg_lt he).1
        rw [he]
        have hoe : oI (some e) = nI e := rfl
        rw [hoe, n_stale (by omega), bd_t rfl]
        unfold F_X0_get
        simp only [lt_b, bd_some]
        rw [tg e 3 3 rfl (by omega) (by decide)]
        split
        · split <;> rfl
        · rfl
      · rw [if_neg h3, if_neg h3]
  · rw [if_neg h1, if_neg h1]
theorem s_may {N : Nat} (hN : 65536 ≤ N) {T : Nat → Rows} {V : Nat → Nat → Int32} {g : Nat → Int32} (h : RR T V g) {esf : Int32} (hI : iS (T 4) esf) {room w : Nat} (hv : V 0 0 = nI room) (hr : room ≤ 200) (hw20 : w ≤ 20) {k : Int32} (hk : Vk k) : F_X12_mayCome N g (kc k) (nI w) = some (may (V 0) (V 4 0) (T 4) (V 3) k (nI w)) := by
  have hre := h.2.2.2.2.1
  have hr0 := h.2.2.2.2.2.2.2.2.1
  have hrs := h.2.2.2.2.2.2.2.2.2.2.2
  have h200 := hre.2
  have hf0 := s_first hN hr0 hre hI.iE (sp := 0) (Or.inl rfl)
  rw [kc_0] at hf0
  unfold F_X12_mayCome may
  rw [gl 0 0 rfl (by decide), gl 5 5 rfl (by decide), hr0.1 0 (by decide), hr0.1 5 (by decide), s_weight hN hre, bd_t rfl, gl 0 0 rfl (by decide), hr0.1 0 (by decide), hf0, bd_t rfl, s_seen hN hrs hk]
  by_cases h1 : nI w ≤ V 0 0
  · rw [if_pos h1, if_pos h1]
    by_cases h2 : V 0 5 = 0
    · rw [if_pos h2, if_pos h2]
    · rw [if_neg h2, if_neg h2]
      by_cases h3 : V 0 0 < wS (T 4) + nI w
      · rw [if_pos h3, if_pos h3]
        rw [hv] at h1 h3
        obtain ⟨e, he⟩ := may_some (vals := V 0) (now := V 4 0) hI ((nI_leI (by omega) (by omega)).mp h1) hr h200 h3
        have hel := (ftg_lt he).1
        rw [he]
        have hoe : oI (some e) = nI e := rfl
        rw [hoe, s_stale hr0 hre hel, bd_t rfl, s_at hre hel 5 5 rfl (by decide), bd_t rfl, bd_t rfl]
        have e5 : cl (mEn (rw' (T 4) e)) 5 = cl (rw' (T 4) e) 3 := rfl
        rw [e5]
        dsimp only
        split
        · split <;> rfl
        · rfl
      · rw [if_neg h3, if_neg h3]
  · rw [if_neg h1, if_neg h1]
theorem n_make {N : Nat} {vals : Nat → Int32} {now : Int32} {book written ents colds : Rows} {sums : Nat → Int32} {x1 sp : Int32} : F_X6_makePlace N vals now book written sums ents colds x1 sp = L_X6_makePlace_8 N mkk mkk x1 sp vals now N (nI ents.length) book written sums ents colds := by
  unfold F_X6_makePlace F_X0_size tsize
  rw [lt_b, bd_some]
theorem s_makeF {N : Nat} {g : Nat → Int32} {x1 x2 : Int32} : F_X12_makesRoom N g x1 x2 = L_X12_makesRoom_0 N (fun g => some g) x1 x2 (N + 1) g := by
  rw [e_X12_makesRoom_0]
  rfl
theorem s_sets {g : Nat → Int32} {n X : Nat} (hX : X = 98 + n * 9) (hn : n < 200) (y : Int32) (c : Nat) (hy : y = nI c) (hc : c < 9) (x : Int32) : F_X12_sets g (nI n) y x = some (upd g (X + c) x) := by
  subst hy
  unfold F_X12_sets
  rw [gs (98 + nI n * 9 + nI c) (X + c) (by rw [hX]; exact (ix3 98 n 9 c).trans (by rw [Nat.add_assoc])) (by omega)]
abbrev entRow (k v w t s co la ca : Int32) : List Int32 := [v, w, t, co, la, ca, s, k, 0]
theorem lea_le {cnt : Nat → Int32} (h : c15 cnt) (hh : Int32) : ∀ r, r ≤ 4 → ∃ a, a ≤ 15 ∧ lea cnt hh r = nI a
  | 0, _ => ⟨15, by decide, rfl⟩
  | r + 1, hr => by
    obtain ⟨a, h1, h2⟩ := lea_le h hh r (by omega)
    obtain ⟨b, h3, h4⟩ := h (r * 16 + pl hh r) (by have := pl_lt hh r; omega)
    show ∃ a, a ≤ 15 ∧ (if cnt (r * 16 + pl hh r) < lea cnt hh r then cnt (r * 16 + pl hh r) else lea cnt hh r) = nI a
    split
    · exact ⟨b, h3, h4⟩
    · exact ⟨a, h1, h2⟩
/-- the numbers behind a new entry -/
def vE (V : Nat → Nat → Int32) : Nat → Nat → Int32 := va_up V 4 (upd (V 4) 3 (V 4 3 + 1))
set_option maxHeartbeats 4000000 in
theorem s_letIn {N : Nat} (hN : 65536 ≤ N) {T : Nat → Rows} {V : Nat → Nat → Int32} {g : Nat → Int32} (h : RR T V g) (hI : Inv0 T V) {c room w a : Nat} (hc : c ≤ 20) (h6 : V 0 6 = nI c) (hv0 : V 0 0 = nI room) (hr : room ≤ 200) (h5 : (T 5).length ≤ c) (hw1 : 1 ≤ w) (hw2 : w ≤ 20) (hesf : V 4 3 = nI a) (ha : a < 100000) (h15 : c15 (V 3)) {k v t s : Int32} (hk : Vk k) (hnew : ∀ r ∈ T 4, ¬ cl r 7 = k) (hvv : ∃ q, q ≤ 99999 ∧ v = nI q) (hss : ∃ q, q ≤ 99999 ∧ s = nI q) (hsum : wSN (T 4) ≤ room) :
    ∃ (r : Int32) (T' : Nat → Rows) (V' : Nat → Nat → Int32) (g' : Nat → Int32), F_X6_letIn N (V 0) (V 4 0) (T 0) (T 2) (V 1) (T 4) (T 5) (V 3) (V 4 1) (V 4 3) k v (nI w) t s = some (r, T' 0, T' 2, V' 1, T' 4, T' 5, V' 4 3) ∧ F_X12_letsIn N g (kc k) v (nI w) t s = some (r, g') ∧ RR (va_up T' 0 (pushK (T' 0) (if r = 0 then 5 else 4) (V 4 0) k)) V' g' ∧ Inv0 T' V' ∧ (r = 0 ∨ r = 1) ∧ (r = 0 → T' = T ∧ V' = V) ∧ (T' 5).length ≤ c ∧ wSN (T' 4) ≤ room ∧ (∀ j, j ≠ 0 → j ≠ 2 → j ≠ 4 → j ≠ 5 → T' j = T j) ∧ (∀ j, j ≠ 1 → j ≠ 4 → V' j = V j) ∧ (∀ j, j ≠ 3 → V' 4 j = V 4 j) ∧ (∃ a', a' ≤ a + 1 ∧ V' 4 3 = nI a') ∧ (iX (T 4) (T 5) → (∀ q ∈ T 5, ¬ cl q 7 = k) → iX (T' 4) (T' 5)) := by
  have hre := h.2.2.2.2.1
  have h200 := hre.2
  have hnm := n_may hN (vals := V 0) (now := V 4 0) (cnt := V 3) hI.1 hv0 hr hw2 h200 hk
  have hs := s_may hN h hI.1 hv0 hr hw2 hk
  by_cases hm : may (V 0) (V 4 0) (T 4) (V 3) k (nI w) = 0
  · obtain ⟨g', h1, r1⟩ := s_happens hN h (Or.inr hk) 5
    refine ⟨0, T, V, g', ?_, ?_, ?_, hI, Or.inl rfl, fun _ => ⟨rfl, rfl⟩, h5, hsum, fun _ _ _ _ _ => rfl, fun _ _ _ => rfl, fun _ _ => rfl, ⟨a, by omega, hesf⟩, fun hx _ => hx⟩
    · unfold F_X6_letIn
      rw [hnm, bd_t rfl, if_pos hm]
    · unfold F_X12_letsIn
      rw [hs, bd_t rfl, if_pos hm, h1, bd_t rfl]
    · rw [if_pos rfl]; exact r1
  · have hwr : w ≤ room := by
      have := may_le hm
      rw [hv0] at this
      exact (nI_leI (by omega) (by omega)).mp this
    obtain ⟨T1, V1, g1, c1, c2, r1, I1, c5, c6, c7, c8, c9, c10, c11, c12⟩ := s_make hN hc (sp := 0) (Or.inl rfl) (lim := room - w) (mo := w) (room := room) (by omega) hr (T 4).length T V g h hI h6 hv0 h5 (fun r hr2 hk2 => absurd hk2 (hI.1.1 r hr2).1.2.1.1.kr.ne0.1) rfl
    have hwl1 := wSN_le I1.1.cr
    have v10 : V1 0 = V 0 := c10 0 (by decide)
    have v13 : V1 3 = V 3 := c10 3 (by decide)
    have v14 : V1 4 = V 4 := c10 4 (by decide)
    generalize hnn : (T1 4).length = n
    have hn199 : n < 200 := by omega
    generalize hX : 98 + n * 9 = X
    obtain ⟨le, hle1, hle2⟩ := lea_le h15 (hn k) 4 (by omega)
    generalize hrow : entRow k v (nI w) t s (lea (V 3) (hn k) 4) (V 4 1) (V 4 3 + 1) = row
    -- the reference's row behind the writes
    have rA : RR T1 (vE V1) (upd g1 10 (V 4 3 + 1)) := by
      have hr0 := r1.2.2.2.2.2.2.2.2.1
      have := r1.uR0 (v := V1 0) (sc := upd (V1 4) 3 (V1 4 3 + 1)) (g' := upd g1 10 (V 4 3 + 1)) (by
        obtain ⟨q1, q2, q3, q4, q5, n1, w1, q6, q7, q8, q9, q10, q11, q12⟩ := hr0
        refine ⟨fun i hi => by rw [upd_ne (by omega)]; exact q1 i hi, ?_, ?_, ?_, ?_, n1, w1, q6, q7, q8, ?_, q10, ?_, ?_⟩
        · rw [upd_ne (by decide), upd_ne (by decide)]; exact q2
        · rw [upd_ne (by decide), upd_ne (by decide)]; exact q3
        · rw [upd_at, upd_at, v14]
        · rw [upd_ne (by decide), upd_ne (by decide)]; exact q5
        · rw [upd_ne (by decide)]; exact q9
        · rw [upd_ne (by decide)]; exact q11
        · rw [upd_ne (by decide)]; exact q12) (fun p hp hq => upd_ne (by omega))
      rw [va_same] at this
      exact this
    have hre1 := r1.2.2.2.2.1
    have hm13 : g1 13 = nI n := by rw [s_many hre1, hnn]
    generalize hG : upd (upd (upd (upd (upd (upd (upd (upd (upd (upd (upd g1 13 (nI (n + 1))) 10 (V 4 3 + 1)) X (kc k)) (X + 1) v) (X + 2) (nI w)) (X + 3) t) (X + 4) s) (X + 5) (lea (V 3) (hn k) 4)) (X + 6) (V 4 1)) (X + 7) (V 4 3 + 1)) (X + 8) 0 = G
    have rB : RR (va_up T1 4 (T1 4 ++ [row])) (vE V1) G := by
      refine rA.uRE ⟨?_, by rw [List.length_append, List.length_singleton, hnn]; omega⟩ (fun p hp hq => ?_)
      · rw [List.map_append]
        refine GT.pushed (g' := upd g1 13 (nI (n + 1))) (by rw [upd_at, List.length_map, hnn]) (fun i j hi hj => ?_) ?_ (fun p q1 q2 => ?_) (fun j hj => ?_)
        · have hi' := hi
          rw [List.length_map] at hi'
          rw [upd_ne (by omega)]
          exact hre1.1.2 i j hi hj
        · rw [← hG]
          rw [upd_ne (by omega), upd_ne (by omega), upd_ne (by omega), upd_ne (by omega), upd_ne (by omega), upd_ne (by omega), upd_ne (by omega), upd_ne (by omega), upd_ne (by omega), upd_ne (by omega)]
        · rw [List.length_map, hnn] at q2
          rw [← hG]
          rw [upd_ne (by omega), upd_ne (by omega), upd_ne (by omega), upd_ne (by omega), upd_ne (by omega), upd_ne (by omega), upd_ne (by omega), upd_ne (by omega), upd_ne (by omega), upd_ne (by omega)]
        · rw [List.length_map, hnn, ← hG, ← hrow]
          match j, hj with
          | 0, _ => rw [show 98 + (n * 9 + 0) = X by omega, upd_ne (by omega), upd_ne (by omega), upd_ne (by omega), upd_ne (by omega), upd_ne (by omega), upd_ne (by omega), upd_ne (by omega), upd_ne (by omega), upd_at]; rfl
          | 1, _ => rw [show 98 + (n * 9 + 1) = X + 1 by omega, upd_ne (by omega), upd_ne (by omega), upd_ne (by omega), upd_ne (by omega), upd_ne (by omega), upd_ne (by omega), upd_ne (by omega), upd_at]; rfl
          | 2, _ => rw [show 98 + (n * 9 + 2) = X + 2 by omega, upd_ne (by omega), upd_ne (by omega), upd_ne (by omega), upd_ne (by omega), upd_ne (by omega), upd_ne (by omega), upd_at]; rfl
          | 3, _ => rw [show 98 + (n * 9 + 3) = X + 3 by omega, upd_ne (by omega), upd_ne (by omega), upd_ne (by omega), upd_ne (by omega), upd_ne (by omega), upd_at]; rfl
          | 4, _ => rw [show 98 + (n * 9 + 4) = X + 4 by omega, upd_ne (by omega), upd_ne (by omega), upd_ne (by omega), upd_ne (by omega), upd_at]; rfl
          | 5, _ => rw [show 98 + (n * 9 + 5) = X + 5 by omega, upd_ne (by omega), upd_ne (by omega), upd_ne (by omega), upd_at]; rfl
          | 6, _ => rw [show 98 + (n * 9 + 6) = X + 6 by omega, upd_ne (by omega), upd_ne (by omega), upd_at]; rfl
          | 7, _ => rw [show 98 + (n * 9 + 7) = X + 7 by omega, upd_ne (by omega), upd_at]; rfl
          | 8, _ => rw [show 98 + (n * 9 + 8) = X + 8 by omega, upd_at]; rfl
          | j + 9, hj => omega
      · rw [← hG]
        rw [upd_ne (by omega), upd_ne (by omega), upd_ne (by omega), upd_ne (by omega), upd_ne (by omega), upd_ne (by omega), upd_ne (by omega), upd_ne (by omega), upd_ne (by omega)]
        by_cases q : p = 10
        · rw [q, upd_at, upd_at]
        · rw [upd_ne q, upd_ne q, upd_ne (by omega)]
    obtain ⟨g', hh, rC⟩ := s_happens hN rB (Or.inr hk) 4
    have esf1 : V 4 3 + 1 = nI (a + 1) := by rw [hesf, nI_1]
    have hV0 : vE V1 4 0 = V 4 0 := by
      show upd (V1 4) 3 (V1 4 3 + 1) 0 = V 4 0
      rw [upd_ne (by decide), v14]
    refine ⟨1, va_up T1 4 (T1 4 ++ [row]), vE V1, g', ?_, ?_, ?_, ?_, Or.inr rfl, fun q => absurd q (by decide), c5, ?_, fun j a0 a2 a4 a5 => ?_, fun j a1 a4 => ?_, fun j a3 => ?_, ⟨a + 1, Nat.le_refl _, ?_⟩, ?_⟩
    · unfold F_X6_letIn
      have q1 := c1 N (by omega)
      have hlim : nI room - nI w = nI (room - w) := pk_sub hwr
      rw [hnm, bd_t rfl, if_neg hm, n_value 0 0 rfl (by decide), bd_t rfl, hv0, hlim, n_make, q1, bd_t rfl]
      have hkr : keepR 200 (T1 4) = T1 4 := by unfold keepR; rw [if_pos (by omega)]
      dsimp only
      rw [n_add (by decide) (by omega) (by decide), bd_t rfl, hkr]
      unfold F_X0_set
      dsimp only
      simp only [lt_b, bd_some]
      rw [n_least hN (Or.inr hk), bd_some, tset_last (by omega) 3 3 rfl (by decide), tset_last (by omega) 4 4 rfl (by decide), tset_last (by omega) 5 5 rfl (by decide), ← hrow]
      have e1 : vE V1 1 = V1 1 := rfl
      have e2 : vE V1 4 3 = V 4 3 + 1 := by show upd (V1 4) 3 (V1 4 3 + 1) 3 = _; rw [upd_at, v14]
      rw [e1, e2]
      rfl
    · unfold F_X12_letsIn
      have q2 := c2 (N + 1) (by omega)
      rw [kc_0] at q2
      have hr0 := r1.2.2.2.2.2.2.2.2.1
      have g10 : g1 10 = V 4 3 := by rw [hr0.2.2.2.1, v14]
      have g9 : g1 9 = V 4 1 := by rw [hr0.2.2.1, v14]
      have hrs : RS g1 (V 3) := by have := r1.2.2.2.2.2.2.2.2.2.2.2; rw [v13] at this; exact this
      rw [hs, bd_t rfl, if_neg hm, s_makeF, q2, bd_t rfl, gl 13 13 rfl (by decide), hm13, gl 13 13 rfl (by decide), hm13, nI_1, gs 13 13 rfl (by decide), gl 10 10 rfl (by decide), upd_ne (by decide), g10, gs 10 10 rfl (by decide), s_sets hX.symm hn199 0 0 rfl (by decide), bd_t rfl, s_sets hX.symm hn199 1 1 rfl (by decide), bd_t rfl, s_sets hX.symm hn199 2 2 rfl (by decide), bd_t rfl, s_sets hX.symm hn199 3 3 rfl (by decide), bd_t rfl, s_sets hX.symm hn199 4 4 rfl (by decide), bd_t rfl]
      have hrs2 : RS (upd (upd (upd (upd (upd (upd (upd g1 13 (nI (n + 1))) 10 (V 4 3 + 1)) (X + 0) (kc k)) (X + 1) v) (X + 2) (nI w)) (X + 3) t) (X + 4) s) (V 3) := hrs.frame (fun p hp => by
        rw [upd_ne (by omega), upd_ne (by omega), upd_ne (by omega), upd_ne (by omega), upd_ne (by omega), upd_ne (by omega), upd_ne (by omega)])
      rw [s_seen hN hrs2 hk, bd_t rfl, s_sets hX.symm hn199 5 5 rfl (by decide), bd_t rfl, gl 9 9 rfl (by decide), upd_ne (by omega), upd_ne (by omega), upd_ne (by omega), upd_ne (by omega), upd_ne (by omega), upd_ne (by omega), upd_ne (by omega), upd_ne (by omega), g9, s_sets hX.symm hn199 6 6 rfl (by decide), bd_t rfl, gl 10 10 rfl (by decide), upd_ne (by omega), upd_ne (by omega), upd_ne (by omega), upd_ne (by omega), upd_ne (by omega), upd_ne (by omega), upd_ne (by omega), upd_at, s_sets hX.symm hn199 7 7 rfl (by decide), bd_t rfl, s_sets hX.symm hn199 8 8 rfl (by decide), bd_t rfl]
      have hG' : upd (upd (upd (upd (upd (upd (upd (upd (upd (upd (upd g1 13 (nI (n + 1))) 10 (V 4 3 + 1)) (X + 0) (kc k)) (X + 1) v) (X + 2) (nI w)) (X + 3) t) (X + 4) s) (X + 5) (lea (V 3) (hn k) 4)) (X + 6) (V 4 1)) (X + 7) (V 4 3 + 1)) (X + 8) 0 = G := hG
      rw [hG', hh, bd_t rfl]
    · rw [hV0] at rC
      rw [if_neg (by decide)]
      exact rC
    · refine ⟨⟨fun r hr2 => ?_, ?_⟩, I1.2.1, I1.2.2.1, I1.2.2.2.1, I1.2.2.2.2⟩
      · have e2 : vE V1 4 3 = nI (a + 1) := by show upd (V1 4) 3 (V1 4 3 + 1) 3 = _; rw [upd_at, v14, esf1]
        rw [e2]
        rcases List.mem_append.mp hr2 with q | q
        · have := I1.1.1 r q
          rw [v14, hesf] at this
          exact ⟨this.1, Int32.le_trans this.2 (nI_le (by omega) (by omega))⟩
        · rw [List.mem_singleton.mp q, ← hrow]
          refine ⟨⟨rfl, ⟨hk, ⟨w, hw1, hw2, rfl⟩, hvv, hss⟩, le, by omega, hle2⟩, ?_⟩
          show V 4 3 + 1 ≤ nI (a + 1)
          rw [esf1]
          exact Int32.le_refl _
      · show (T1 4 ++ [row]).Pairwise _
        rw [List.pairwise_append]
        refine ⟨I1.1.2, List.pairwise_singleton _ _, fun r hr2 q hq => ?_⟩
        rw [List.mem_singleton.mp hq, ← hrow]
        have h1 := (I1.1.1 r hr2).2
        rw [v14, hesf] at h1
        refine ⟨?_, fun e => hnew r (c7.subset hr2) e⟩
        show cl r 5 < V 4 3 + 1
        rw [esf1]
        exact Int32.lt_of_le_of_lt h1 (nI_lt (by omega) (by omega))
    · show wSN (T1 4 ++ [row]) ≤ room
      unfold wSN
      rw [List.map_append, List.sum_append]
      have e1 : (List.map wN [row]).sum = w := by
        rw [← hrow]
        show (nI w).toNatClampNeg + 0 = w
        rw [nI_clamp (by omega), Nat.add_zero]
      rw [e1]
      have : (List.map wN (T1 4)).sum ≤ room - w := c6
      omega
    · rw [va_up_ne _ _ a4, c9 j a0 a2 a4 a5]
    · show va_up V1 4 _ j = V j
      rw [va_up_ne _ _ a4, c10 j a1]
    · show upd (V1 4) 3 (V1 4 3 + 1) j = V 4 j
      rw [upd_ne a3, v14]
    · show upd (V1 4) 3 (V1 4 3 + 1) 3 = nI (a + 1)
      rw [upd_at, v14, esf1]
    · intro hx hk5
      have h1 := c11 hx
      refine ⟨h1.1, fun r hr2 q hq => ?_⟩
      rcases List.mem_append.mp hr2 with z | z
      · exact h1.2 r z q hq
      · rw [List.mem_singleton.mp z, ← hrow]
        obtain ⟨r2, h3, h4⟩ := c12 q hq
        show ¬ k = cl q 7
        rw [← h4]
        rcases h3 with z2 | z2
        · exact fun e => hnew r2 z2 e.symm
        · exact fun e => hk5 r2 z2 e.symm
