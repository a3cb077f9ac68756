/-! ===== drop, dropTag, dropAll, sweep: both sides ===== -/
def Mn (by' what x2 : Int32) : Prop := (by' = 0 ∧ Vk what ∧ x2 = kc what) ∨ (by' = 1 ∧ x2 = what) ∨ (by' = 2 ∧ Vk what ∧ x2 = kc what) ∨ by' = 3
theorem n_beg {N : Nat} (hN : 65536 ≤ N) {k s : Int32} (hk : Vk k) (hs : Vk s) : ∃ o, F_X1_beginsWith N k s = some o ∧ F_X12_beginsWith N (kc k) (kc s) = some o ∧ (o = 0 ∨ o = 1) := by
  obtain ⟨q, ks, h1, h2, rfl, rfl⟩ := hk
  obtain ⟨q', ss, h1', h2', rfl, rfl⟩ := hs
  rw [kc_eq ⟨ks, h1, h2, rfl, rfl⟩, kc_eq ⟨ss, h1', h2', rfl, rfl⟩]
  refine ⟨_, k_begC hN h1 h1' h2', k_begR hN h1 h1' h2', ?_⟩
  unfold kbegI
  split
  · exact Or.inr rfl
  · exact Or.inl rfl
theorem and1 (x : Int32) : x &&& 1 = 0 ∨ x &&& 1 = 1 := by
  have h : ∀ b : BitVec 32, b &&& 1#32 = 0#32 ∨ b &&& 1#32 = 1#32 := by
    intro b
    have : (b &&& 1#32).toNat = b.toNat % 2 := by
      rw [BitVec.toNat_and]
      exact Nat.and_two_pow_sub_one_eq_mod b.toNat 1
    rcases Nat.mod_two_eq_zero_or_one b.toNat with z | z
    · left
      exact BitVec.eq_of_toNat_eq (by rw [this, z]; rfl)
    · right
      exact BitVec.eq_of_toNat_eq (by rw [this, z]; rfl)
  rcases h x.toBitVec with z | z
  · left
    exact Int32.toBitVec_inj.mp z
  · right
    exact Int32.toBitVec_inj.mp z
theorem meant {N : Nat} (hN : 65536 ≤ N) {by' what x2 : Int32} (hm : Mn by' what x2) {g vals sc : Nat → Int32} (h0 : R0 g vals sc) {r : List Int32} (hr : Vk (cl r 7)) {X : Nat} (hX : X + 4 < 8787) (k0 : g X = kc (cl r 7)) (k3 : g (X + 3) = cl r 2) (k4 : g (X + 4) = cl r 6) :
    ∃ o, F_X0_isPicked N 1 vals (sc 0) [r] 0 by' what = some o ∧ F_X12_isMeant N g by' x2 (nI X) = some o := by
  have t : ∀ (x : Int32) (c : Nat), x = nI c → c < 9 → tget [r] 0 x = cl r c := fun x c hx hc => tg (rows := [r]) 0 x c hx (by decide) (by omega)
  have e0 : nI X + 0 = nI X := Int32.add_zero _
  have e3 : nI X + 3 = nI (X + 3) := nI_add X 3
  have e4 : nI X + 4 = nI (X + 4) := nI_add X 4
  unfold F_X0_isPicked F_X12_isMeant
  rcases hm with ⟨rfl, hv, rfl⟩ | ⟨rfl, rfl⟩ | ⟨rfl, hv, rfl⟩ | rfl
  · rw [if_pos rfl, if_pos rfl, lt_b, t 7 7 rfl (by decide), e0, gl _ X rfl (by omega), k0]
    by_cases z : cl r 7 = what
    · exact ⟨1, by rw [if_pos z], by rw [if_pos ((kc_inj hr hv).mpr z)]⟩
    · exact ⟨0, by rw [if_neg z], by rw [if_neg (fun y => z ((kc_inj hr hv).mp y))]⟩
  · rw [if_neg (show ¬ (1 : Int32) = 0 by decide), if_neg (show ¬ (1 : Int32) = 0 by decide), if_pos rfl, if_pos rfl, lt_b, t 2 2 rfl (by decide), e3, gl _ (X + 3) rfl (by omega), k3]
    rcases and1 (cl r 2 >>> (x2 &&& 31)) with z | z
    · exact ⟨0, by rw [if_pos z], by rw [if_neg (by rw [z]; decide)]⟩
    · exact ⟨1, by rw [if_neg (by rw [z]; decide)], by rw [if_pos z]⟩
  · obtain ⟨o, b1, b2, b3⟩ := n_beg hN hr hv
    rw [if_neg (show ¬ (2 : Int32) = 0 by decide), if_neg (show ¬ (2 : Int32) = 0 by decide), if_neg (show ¬ (2 : Int32) = 1 by decide), if_neg (show ¬ (2 : Int32) = 1 by decide), if_pos rfl, if_pos rfl, lt_b, t 7 7 rfl (by decide), e0, gl _ X rfl (by omega), k0, b1, b2, bd_some, ck_t b3]
    exact ⟨o, rfl, rfl⟩
  · have s1 : F_X0_isStale 1 vals (sc 0) [r] 0 = some (stI vals (sc 0) (cl r 6)) := n_stale (rows := [r]) (i := 0) (by decide)
    rw [if_neg (show ¬ (3 : Int32) = 0 by decide), if_neg (show ¬ (3 : Int32) = 0 by decide), if_neg (show ¬ (3 : Int32) = 1 by decide), if_neg (show ¬ (3 : Int32) = 1 by decide), if_neg (show ¬ (3 : Int32) = 2 by decide), if_neg (show ¬ (3 : Int32) = 2 by decide), if_pos rfl, s1, bd_some, e4, gl _ (X + 4) rfl (by omega), k4, s_over h0, bd_some, ck_t (stI_01 _ _ _)]
    exact ⟨_, rfl, rfl⟩
theorem meantE {N : Nat} (hN : 65536 ≤ N) {by' what x2 : Int32} (hm : Mn by' what x2) {T : Nat → Rows} {V : Nat → Nat → Int32} {g : Nat → Int32} (h : RR T V g) (hE : iE (T 4)) {i : Nat} (hi : i < (T 4).length) :
    F_X0_isPicked N 200 (V 0) (V 4 0) (T 4) (nI i) by' what = some (pkR N (V 0) (V 4 0) by' what (rw' (T 4) i)) ∧ F_X12_isMeant N g by' x2 (98 + nI i * 9) = some (pkR N (V 0) (V 4 0) by' what (rw' (T 4) i)) := by
  have h200 := h.e.2
  have eX : (98 : Int32) + nI i * 9 = nI (98 + i * 9) := ix2 98 i 9
  have cell : ∀ c, c < 9 → g (98 + i * 9 + c) = cl (mEn (rw' (T 4) i)) c := fun c hc => by
    have := h.e.1.2 i c (by rw [List.length_map]; exact hi) hc
    rw [show 98 + i * 9 + c = 98 + (i * 9 + c) by omega, this]
    exact congrArg (fun r => List.getD r c 0) (map_at mEn hi)
  obtain ⟨o, o1, o2⟩ := meant hN hm h.z (r := rw' (T 4) i) (hE.at hi).2 (X := 98 + i * 9) (by omega) (cell 0 (by decide)) (cell 3 (by decide)) (cell 4 (by decide))
  have e : pkR N (V 0) (V 4 0) by' what (rw' (T 4) i) = o := by unfold pkR; rw [o1]; rfl
  exact ⟨n_pick (by omega) ⟨o, o1⟩, by rw [e, eX]; exact o2⟩
theorem meantC {N : Nat} (hN : 65536 ≤ N) {by' what x2 : Int32} (hm : Mn by' what x2) {T : Nat → Rows} {V : Nat → Nat → Int32} {g : Nat → Int32} (h : RR T V g) (hC : iC (T 5)) {i : Nat} (hi : i < (T 5).length) :
    (∃ o, F_X0_isPicked N 1 (V 0) (V 4 0) [rw' (T 5) i] 0 by' what = some o) ∧ F_X12_isMeant N g by' x2 (1898 + nI i * 5) = some (pkR N (V 0) (V 4 0) by' what (rw' (T 5) i)) := by
  have h21 := h.c.2
  have eX : (1898 : Int32) + nI i * 5 = nI (1898 + i * 5) := ix2 1898 i 5
  have cell : ∀ c, c < 5 → g (1898 + i * 5 + c) = cl (mCo (rw' (T 5) i)) c := fun c hc => by
    have := h.c.1.2 i c (by rw [List.length_map]; exact hi) hc
    rw [show 1898 + i * 5 + c = 1898 + (i * 5 + c) by omega, this]
    exact congrArg (fun r => List.getD r c 0) (map_at mCo hi)
  obtain ⟨o, o1, o2⟩ := meant hN hm h.z (r := rw' (T 5) i) (hC _ (mem_at hi)).1 (X := 1898 + i * 5) (by omega) (cell 0 (by decide)) (cell 3 (by decide)) (cell 4 (by decide))
  have e : pkR N (V 0) (V 4 0) by' what (rw' (T 5) i) = o := by unfold pkR; rw [o1]; rfl
  exact ⟨⟨o, o1⟩, by rw [e, eX]; exact o2⟩
theorem s_dropE {N : Nat} (hN : 65536 ≤ N) {p : P} {by' what x2 : Int32} (hm : Mn by' what x2) (kind : Nat) (hk9 : (by' = 3 ∧ kind = 8) ∨ (¬ by' = 3 ∧ kind = 9)) (kc' : Int32 → Rows → Rows → (Nat → Int32) → Rows → (Option (Int32 × Rows × Rows × (Nat → Int32) × Rows × Rows))) (kr : Int32 → (Nat → Int32) → (Option (Int32 × (Nat → Int32)))) (C : Rows) : ∀ (d i s : Nat) (T : Nat → Rows) (V : Nat → Nat → Int32) (g : Nat → Int32), RR T V g → Iv p T V → i + d = (T 4).length →
    ∃ (T' : Nat → Rows) (V' : Nat → Nat → Int32) (g' : Nat → Int32) (s' : Nat), (∀ n, d < n → L_X6_letAllGo_14 N kc' by' what (V 0) (V 4 0) C n (nI s) (nI i) (nI d) (T 0) (T 2) (V 1) (T 4) = kc' (nI s') (T' 0) (T' 2) (V' 1) (T' 4)) ∧ (∀ n, d < n → L_X12_drops_6 N kr by' x2 (nI kind) n (nI s) (nI i) g = kr (nI s') g') ∧ RR T' V' g' ∧ Iv p T' V' ∧ (∀ j, j ≠ 0 → j ≠ 2 → j ≠ 4 → T' j = T j) ∧ ∀ j, j ≠ 1 → V' j = V j := by
  intro d
  induction d with
  | zero =>
    intro i s T V g h hI hi
    have h200 := h.e.2
    refine ⟨T, V, g, s, fun n hn => ?_, fun n hn => ?_, h, hI, fun _ _ _ _ => rfl, fun _ _ => rfl⟩
    · obtain ⟨n, rfl⟩ : ∃ q, n = q + 1 := ⟨n - 1, by omega⟩
      rw [e_X6_letAllGo_14]
      unfold K_X6_letAllGo_14
      rw [if_pos (show nI 0 ≤ 0 by decide)]
    · obtain ⟨n, rfl⟩ : ∃ q, n = q + 1 := ⟨n - 1, by omega⟩
      rw [e_X12_drops_6]
      unfold K_X12_drops_6
      rw [gl 13 13 rfl (by decide), s_many h.e, if_pos (nI_le (by omega) (by omega))]
  | succ d ih =>
    intro i s T V g h hI hi
    have h200 := h.e.2
    have hil : i < (T 4).length := by omega
    obtain ⟨m1, m2⟩ := meantE hN hm h hI.i0.1.iE hil
    by_cases z : pkR N (V 0) (V 4 0) by' what (rw' (T 4) i) = 0
    · obtain ⟨T', V', g', s', c1, c2, c3, c4, c5, c6⟩ := ih (i + 1) s T V g h hI (by omega)
      refine ⟨T', V', g', s', fun n hn => ?_, fun n hn => ?_, c3, c4, c5, c6⟩
      · obtain ⟨n, rfl⟩ : ∃ q, n = q + 1 := ⟨n - 1, by omega⟩
        rw [e_X6_letAllGo_14]
        unfold K_X6_letAllGo_14 J_X6_letAllGo_60
        rw [if_neg (nI_nle (by omega) (by omega)), m1, bd_some, if_pos z, lt_b, lt_b, pk_m1, nI_1]
        exact c1 n (by omega)
      · obtain ⟨n, rfl⟩ : ∃ q, n = q + 1 := ⟨n - 1, by omega⟩
        rw [e_X12_drops_6]
        unfold K_X12_drops_6
        rw [gl 13 13 rfl (by decide), s_many h.e, if_neg (nI_ge hil (by omega)), m2, bd_some, if_pos z, lt_b, nI_1]
        exact c2 n (by omega)
    · obtain ⟨g1, q1, r1⟩ := s_leaves hN h hI.i0.1.iE hil (nI kind)
      have I1 : Iv p (lgT T V i (nI kind)) (lgV T V i) := lg_iv hI hil
      have hl1 : i + d = (lgT T V i (nI kind) 4).length := by rw [lgT_4, List.length_eraseIdx_of_lt hil]; omega
      obtain ⟨T', V', g', s', c1, c2, c3, c4, c5, c6⟩ := ih i (s + 1) _ _ g1 r1 I1 hl1
      have v0 : lgV T V i 0 = V 0 := lgV_ne (by decide)
      have v4 : lgV T V i 4 = V 4 := lgV_ne (by decide)
      have lg := n_letGo hN hI.i0.1.iE hil (by omega) kind (by omega) (V := V)
      have tl : tlk (lgV T V i 1) kind = lgV T V i 1 := by
        rcases hk9 with ⟨-, rfl⟩ | ⟨-, rfl⟩ <;> rfl
      rw [tl] at lg
      rw [v0, v4] at c1
      refine ⟨T', V', g', s', fun n hn => ?_, fun n hn => ?_, c3, c4, fun j h0 h2 h4 => by rw [c5 j h0 h2 h4, lgT_ne h0 h2 h4], fun j h1 => by rw [c6 j h1, lgV_ne h1]⟩
      · obtain ⟨n, rfl⟩ : ∃ q, n = q + 1 := ⟨n - 1, by omega⟩
        have e48 : ∀ t2, t2 = nI kind → J_X6_letAllGo_48 N (L_X6_letAllGo_14 N kc' by' what (V 0) (V 4 0) C n) kc' (nI i) t2 by' what (nI s) (nI i) (nI (d + 1)) (V 0) (V 4 0) (T 0) (T 2) (V 1) (T 4) C = kc' (nI s') (T' 0) (T' 2) (V' 1) (T' 4) := by
          intro t2 ht
          unfold J_X6_letAllGo_48 J_X6_letAllGo_60
          rw [ht, lg, bd_some, lt_b, lt_b, pk_m1, nI_1]
          exact c1 n (by omega)
        rw [e_X6_letAllGo_14]
        unfold K_X6_letAllGo_14
        rw [if_neg (nI_nle (by omega) (by omega)), m1, bd_some, if_neg z]
        rcases hk9 with ⟨y, e⟩ | ⟨y, e⟩
        · rw [if_pos y]; exact e48 8 (by rw [e]; rfl)
        · rw [if_neg y]; exact e48 9 (by rw [e]; rfl)
      · obtain ⟨n, rfl⟩ : ∃ q, n = q + 1 := ⟨n - 1, by omega⟩
        rw [e_X12_drops_6]
        unfold K_X12_drops_6
        rw [gl 13 13 rfl (by decide), s_many h.e, if_neg (nI_ge hil (by omega)), m2, bd_some, if_neg z, q1, bd_some, lt_b, nI_1]
        exact c2 n (by omega)
noncomputable def npF (N : Nat) (vals : Nat → Int32) (now by' what : Int32) (rows : Rows) : Rows := rows.filter (fun r => decide (pkR N vals now by' what r = 0))
theorem npF_cons {N : Nat} {vals : Nat → Int32} {now by' what : Int32} (r : List Int32) (rs : Rows) : npF N vals now by' what (r :: rs) = (if pkR N vals now by' what r = 0 then [r] else []) ++ npF N vals now by' what rs := by
  unfold npF
  rw [List.filter_cons]
  by_cases z : pkR N vals now by' what r = 0
  · rw [if_pos (decide_eq_true z), if_pos z]; rfl
  · rw [if_neg (by rw [decide_eq_true_eq]; exact z), if_neg z]; rfl
theorem pn_cons {N : Nat} {vals : Nat → Int32} {now by' what : Int32} (r : List Int32) (rs : Rows) : pn N vals now by' what (r :: rs) = pn N vals now by' what rs + if pkR N vals now by' what r = 0 then 0 else 1 := by
  unfold pn
  rw [List.countP_cons]
  simp only [decide_eq_true_eq]
  by_cases z : pkR N vals now by' what r = 0
  · rw [if_pos z, if_neg (fun y => y z)]
  · rw [if_neg z, if_pos z]
theorem s_dropC {N : Nat} (hN : 65536 ≤ N) {p : P} {by' what x2 : Int32} (hm : Mn by' what x2) {V : Nat → Nat → Int32} (kr : Int32 → (Nat → Int32) → (Option (Int32 × (Nat → Int32)))) : ∀ (d i s : Nat) (T : Nat → Rows) (g : Nat → Int32), RR T V g → Iv p T V → i + d = (T 5).length →
    ∃ (T' : Nat → Rows) (g' : Nat → Int32), (∀ n, d < n → L_X12_drops_57 N kr by' x2 n (nI s) (nI i) g = kr (nI (s + pn N (V 0) (V 4 0) by' what ((T 5).drop i))) g') ∧ RR T' V g' ∧ Iv p T' V ∧ T' 5 = (T 5).take i ++ npF N (V 0) (V 4 0) by' what ((T 5).drop i) ∧ ∀ j, j ≠ 5 → T' j = T j := by
  intro d
  induction d with
  | zero =>
    intro i s T g h hI hi
    have h21 := h.c.2
    have ei : i = (T 5).length := by omega
    have hm5 : g 14 = nI (T 5).length := by rw [h.c.1.1, List.length_map]
    refine ⟨T, g, fun n hn => ?_, h, hI, ?_, fun _ _ => rfl⟩
    · obtain ⟨n, rfl⟩ : ∃ q, n = q + 1 := ⟨n - 1, by omega⟩
      rw [e_X12_drops_57]
      unfold K_X12_drops_57
      rw [gl 14 14 rfl (by decide), hm5, if_pos (nI_le (by omega) (by omega)), ei, List.drop_length]
      rfl
    · rw [ei, List.drop_length, List.take_length]
      show T 5 = T 5 ++ []
      rw [List.append_nil]
  | succ d ih =>
    intro i s T g h hI hi
    have h21 := h.c.2
    have hil : i < (T 5).length := by omega
    have hm5 : g 14 = nI (T 5).length := by rw [h.c.1.1, List.length_map]
    obtain ⟨-, m2⟩ := meantC hN hm h hI.i0.2.1 hil
    have dg : (T 5).drop i = rw' (T 5) i :: (T 5).drop (i + 1) := drop_get hil
    by_cases z : pkR N (V 0) (V 4 0) by' what (rw' (T 5) i) = 0
    · obtain ⟨T', g', c1, c2, c3, c4, c5⟩ := ih (i + 1) s T g h hI (by omega)
      refine ⟨T', g', fun n hn => ?_, c2, c3, ?_, c5⟩
      · obtain ⟨n, rfl⟩ : ∃ q, n = q + 1 := ⟨n - 1, by omega⟩
        rw [e_X12_drops_57]
        unfold K_X12_drops_57
        rw [gl 14 14 rfl (by decide), hm5, if_neg (nI_ge hil (by omega)), m2, bd_some, if_pos z, lt_b, nI_1, dg, pn_cons, if_pos z, Nat.add_zero]
        exact c1 n (by omega)
      · rw [c4, dg, npF_cons, if_pos z, ← List.append_assoc]
        congr 1
        rw [List.take_add_one, List.getElem?_eq_getElem hil, show rw' (T 5) i = (T 5)[i] from q_getD_lt hil]
        rfl
    · obtain ⟨g1, q1, r1⟩ := s_coldOut hN h hil
      have er : (T 5).eraseIdx i = (T 5).take i ++ (T 5).drop (i + 1) := List.eraseIdx_eq_take_drop_succ _ _
      have tl : ((T 5).take i).length = i := by rw [List.length_take]; omega
      obtain ⟨T', g', c1, c2, c3, c4, c5⟩ := ih i (s + 1) _ g1 r1 (co_iv hI i) (by show i + d = ((T 5).eraseIdx i).length; rw [List.length_eraseIdx_of_lt hil]; omega)
      have e5 : va_up T 5 ((T 5).eraseIdx i) 5 = (T 5).take i ++ (T 5).drop (i + 1) := er
      have et : ((T 5).take i ++ (T 5).drop (i + 1)).take i = (T 5).take i := by rw [List.take_append_of_le_length (by omega), List.take_of_length_le (by omega)]
      have ed : ((T 5).take i ++ (T 5).drop (i + 1)).drop i = (T 5).drop (i + 1) := by rw [List.drop_append_of_le_length (by omega), List.drop_of_length_le (by omega)]; rfl
      rw [e5, ed] at c1
      rw [e5, et, ed] at c4
      refine ⟨T', g', fun n hn => ?_, c2, c3, ?_, fun j hj => by rw [c5 j hj, vu_ne hj]⟩
      · obtain ⟨n, rfl⟩ : ∃ q, n = q + 1 := ⟨n - 1, by omega⟩
        rw [e_X12_drops_57]
        unfold K_X12_drops_57
        rw [gl 14 14 rfl (by decide), hm5, if_neg (nI_ge hil (by omega)), m2, bd_some, if_neg z, q1, bd_some, lt_b, nI_1, dg, pn_cons, if_neg z, c1 n (by omega)]
        congr 2
        omega
      · rw [c4, dg, npF_cons, if_neg z]
        rfl
theorem n_dropC {N : Nat} {by' what : Int32} {vals : Nat → Int32} {now : Int32} (kc' : Int32 → Rows → (Option (Int32 × Rows × Rows × (Nat → Int32) × Rows × Rows))) (book written : Rows) (sums : Nat → Int32) (ents : Rows) : ∀ (n s : Nat) (A B : Rows), A.length + B.length < 65536 → (∀ r ∈ A, ∃ o, F_X0_isPicked N 1 vals now [r] 0 by' what = some o) → A.length < n →
    L_X6_letAllGo_77 N kc' by' what vals now book written sums ents n (nI s) (nI A.length - 1) (A ++ B) = kc' (nI (s + pn N vals now by' what A)) (npF N vals now by' what A ++ B) := by
  intro n
  induction n with
  | zero => intro s A B _ _ h; omega
  | succ n ih =>
    intro s A B hl hp hn
    rw [e_X6_letAllGo_77]
    unfold K_X6_letAllGo_77 J_X6_letAllGo_108
    rcases List.eq_nil_or_concat A with rfl | ⟨A', r, rfl⟩
    · rw [if_pos (show nI ([] : Rows).length - 1 < 0 by decide)]
      rfl
    · have hlen : (A' ++ [r]).length = A'.length + 1 := by rw [List.length_append, List.length_singleton]
      rw [List.concat_eq_append] at hl hp hn ⊢
      have hi : A'.length < (A' ++ [r] ++ B).length := by rw [List.length_append, hlen]; omega
      have er : rw' (A' ++ [r] ++ B) A'.length = r := by
        show (A' ++ [r] ++ B).getD A'.length [] = r
        rw [gD_app (by rw [hlen]; omega), gD_last rfl]
      have m1 : F_X0_isPicked N 20 vals now (A' ++ [r] ++ B) (nI A'.length) by' what = some (pkR N vals now by' what r) := by
        have := n_pick (N := N) (dm := 20) (vals := vals) (now := now) (rows := A' ++ [r] ++ B) (i := A'.length) (by omega) (by' := by') (what := what) (by rw [er]; exact hp r (by simp))
        rw [er] at this
        exact this
      have e1 : nI (A' ++ [r]).length - 1 = nI A'.length := by rw [hlen]; exact nI_pred _
      have em : nI A'.length + -1 = nI A'.length - 1 := (Int32.sub_eq_add_neg _ _).symm
      have hpn : pn N vals now by' what (A' ++ [r]) = pn N vals now by' what A' + if pkR N vals now by' what r = 0 then 0 else 1 := by
        have := pn_cons (N := N) (vals := vals) (now := now) (by' := by') (what := what) r []
        unfold pn at this ⊢
        rw [List.countP_append, this]
        show _ + (0 + _) = _
        rw [Nat.zero_add]
      have hnp : npF N vals now by' what (A' ++ [r]) = npF N vals now by' what A' ++ if pkR N vals now by' what r = 0 then [r] else [] := by
        have := npF_cons (N := N) (vals := vals) (now := now) (by' := by') (what := what) r []
        unfold npF at this ⊢
        rw [List.filter_append, this]
        show _ ++ (_ ++ []) = _
        rw [List.append_nil]
      rw [e1, if_neg (nI_pos (by omega)), m1, bd_some, hpn, hnp]
      by_cases z : pkR N vals now by' what r = 0
      · rw [if_pos z, if_pos z, if_pos z, lt_b, em, Nat.add_zero, List.append_assoc, List.append_assoc]
        exact ih s A' ([r] ++ B) (by rw [hlen] at hl; rw [List.length_append, List.length_singleton]; omega) (fun q hq => hp q (List.mem_append_left _ hq)) (by omega)
      · have ere : F_X0_remove 20 (A' ++ [r] ++ B) (nI A'.length) = some (A' ++ B) := by
          rw [n_remove0 (by omega), List.eraseIdx_eq_take_drop_succ]
          congr 1
          rw [List.append_assoc, List.take_left' rfl, show A' ++ ([r] ++ B) = (A' ++ [r]) ++ B by rw [List.append_assoc], List.drop_left' hlen]
        rw [if_neg z, if_neg z, if_neg z, ere, bd_some, lt_b, lt_b, em, nI_1, ih (s + 1) A' B (by rw [hlen] at hl; omega) (fun q hq => hp q (List.mem_append_left _ hq)) (by omega), List.append_nil]
        congr 2
        omega
theorem s_drops {N : Nat} (hN : 65536 ≤ N) {p : P} {by' what x2 : Int32} (hm : Mn by' what x2) (kind : Nat) (hk9 : (by' = 3 ∧ kind = 8) ∨ (¬ by' = 3 ∧ kind = 9)) {T : Nat → Rows} {V : Nat → Nat → Int32} {g : Nat → Int32} (h : RR T V g) (hI : Iv p T V) :
    ∃ (r : Int32) (T' : Nat → Rows) (V' : Nat → Nat → Int32) (g' : Nat → Int32), F_X6_letAllGo N (V 0) (V 4 0) (T 0) (T 2) (V 1) (T 4) (T 5) by' what = some (r, T' 0, T' 2, V' 1, T' 4, T' 5) ∧ F_X12_drops N g by' x2 (nI kind) = some (r, g') ∧ RR T' V' g' ∧ Iv p T' V' ∧ (∀ j, j ≠ 0 → j ≠ 2 → j ≠ 4 → j ≠ 5 → T' j = T j) ∧ ∀ j, j ≠ 1 → V' j = V j := by
  have h200 := h.e.2
  have h21 := h.c.2
  obtain ⟨T1, V1, g1, s1, c1, c2, c3, c4, c5, c6⟩ := s_dropE hN hm kind hk9 (fun x3 book written sums ents => bd (F_X0_size 20 (T 5)) (fun o_13 =>
    lt (o_13 - 1) (fun x5_14 =>
    L_X6_letAllGo_77 N (fun x3 colds => some (x3, book, written, sums, ents, colds)) by' what (V 0) (V 4 0) book written sums ents N x3 x5_14 (T 5)))) (fun x4 g => L_X12_drops_57 N (fun x4 g => some (x4, g)) by' x2 N x4 0 g) (T 5) (T 4).length 0 0 T V g h hI (by omega)
  have t5 : T1 5 = T 5 := c5 5 (by decide) (by decide) (by decide)
  have v0 : V1 0 = V 0 := c6 0 (by decide)
  have v4 : V1 4 = V 4 := c6 4 (by decide)
  obtain ⟨T2, g2, d1, d2, d3, d4, d5⟩ := s_dropC hN hm (V := V1) (fun x4 g => some (x4, g)) (T1 5).length 0 s1 T1 g1 c3 c4 (by omega)
  rw [List.take_zero, List.drop_zero, List.nil_append] at d4
  rw [List.drop_zero] at d1
  have hpick : ∀ r ∈ T 5, ∃ o, F_X0_isPicked N 1 (V 0) (V 4 0) [r] 0 by' what = some o := by
    intro r hr
    obtain ⟨i, hi, rfl⟩ := List.getElem_of_mem hr
    have := (meantC hN hm h hI.i0.2.1 hi).1
    rw [show rw' (T 5) i = (T 5)[i] from q_getD_lt hi] at this
    exact this
  have nc := n_dropC (N := N) (by' := by') (what := what) (vals := V 0) (now := V 4 0) (fun x3 colds => some (x3, T1 0, T1 2, V1 1, T1 4, colds)) (T1 0) (T1 2) (V1 1) (T1 4) N s1 (T 5) [] (by show (T 5).length + 0 < _; omega) hpick (by omega)
  rw [List.append_nil, List.append_nil] at nc
  refine ⟨nI (s1 + pn N (V 0) (V 4 0) by' what (T 5)), T2, V1, g2, ?_, ?_, d2, d3, fun j h0 h2 h4 h5 => by rw [d5 j h5, c5 j h0 h2 h4], c6⟩
  · unfold F_X6_letAllGo F_X0_size
    have c1' := c1 N (by omega)
    rw [nI_0] at c1'
    unfold F_X0_size at c1'
    rw [lt_b, bd_some]
    rw [lt_b, bd_some, lt_b] at c1'
    have e0 : tsize (T 4) = nI (T 4).length := rfl
    have e5 : tsize (T 5) = nI (T 5).length := rfl
    rw [e0]
    refine c1'.trans ?_
    rw [e5]
    refine nc.trans ?_
    rw [d5 0 (by decide), d5 2 (by decide), d5 4 (by decide), d4, t5, v0, v4]
  · unfold F_X12_drops
    have c2' := c2 N (by omega)
    rw [nI_0] at c2'
    rw [c2']
    have d1' := d1 N (by have := c3.c.2; omega)
    rw [nI_0, t5, v0, v4] at d1'
    exact d1'
theorem m_drop {N : Nat} (hN : 65536 ≤ N) {c : Nat} {tp : List Nat} {T : Nat → Rows} {V : Nat → Nat → Int32} {g : Nat → Int32} (hs : SQ c tp T V g) {tby : Nat → Int32} {tsz : Int32} {tape : Nat → Int32} {taped : Int32} (ht : TR tp tby tsz tape taped) (spot : Int32) :
    ∃ (r : Int32) (T' : Nat → Rows) (V' : Nat → Nat → Int32) (g' : Nat → Int32) (tp' : List Nat) (tsz' taped' spot' : Int32), F_X11_drop N tby tsz (V 0) (V 4 0) (T 0) (T 2) (V 1) (T 4) (T 5) = some (r, tsz', T' 0, T' 2, V' 1, T' 4, T' 5) ∧ F_X12_drop N g tape taped spot = some (r, g', taped', spot') ∧ TR tp' tby tsz' tape taped' ∧ SQ (c + 1) tp' T' V' g' ∧ (∀ j, j ≠ 0 → j ≠ 2 → j ≠ 4 → j ≠ 5 → T' j = T j) ∧ ∀ j, j ≠ 1 → V' j = V j := by
  unfold F_X11_drop F_X12_drop
  obtain ⟨k, spot', k1, k2, k3⟩ := take_both hN ht spot
  rw [k1, k2, bd_some, bd_some]
  rcases k3 with rfl | ⟨hk, hne⟩
  · exact ⟨-1002, T, V, g, [], 0, 0, spot', by rw [if_pos rfl], by rw [if_pos kc_0], ht.nil, hs.nil, fun _ _ _ _ _ => rfl, fun _ _ => rfl⟩
  obtain ⟨p, q, h, hI, hB, hq⟩ := hs
  obtain ⟨r, T', V', g', c1, c2, c3, c4, c5, c6⟩ := s_drops hN (by' := 0) (Or.inl ⟨rfl, hk, rfl⟩) 9 (Or.inr ⟨by decide, rfl⟩) h hI
  have c2' : F_X12_drops N g 0 (kc k) 9 = some (r, g') := c2
  exact ⟨r, T', V', g', [], 0, 0, spot', by rw [if_neg (kc_ne0 hk).1, c1, bd_some], by rw [if_neg (kc_ne0 hk).2, c2', bd_some], ht.nil, ⟨p, q, c3, c4, hB.le (by rw [c5 6 (by decide) (by decide) (by decide) (by decide)]; exact Nat.le_refl _) (by rw [c5 7 (by decide) (by decide) (by decide) (by decide)]; exact Nat.le_refl _), by rw [ne1_nil]; omega⟩, c5, c6⟩
theorem m_dropAll {N : Nat} (hN : 65536 ≤ N) {c : Nat} {tp : List Nat} {T : Nat → Rows} {V : Nat → Nat → Int32} {g : Nat → Int32} (hs : SQ c tp T V g) {tby : Nat → Int32} {tsz : Int32} {tape : Nat → Int32} {taped : Int32} (ht : TR tp tby tsz tape taped) (spot : Int32) :
    ∃ (r : Int32) (T' : Nat → Rows) (V' : Nat → Nat → Int32) (g' : Nat → Int32) (tp' : List Nat) (tsz' taped' spot' : Int32), F_X11_dropAll N tby tsz (V 0) (V 4 0) (T 0) (T 2) (V 1) (T 4) (T 5) = some (r, tsz', T' 0, T' 2, V' 1, T' 4, T' 5) ∧ F_X12_dropAll N g tape taped spot = some (r, g', taped', spot') ∧ TR tp' tby tsz' tape taped' ∧ SQ (c + 1) tp' T' V' g' ∧ (∀ j, j ≠ 0 → j ≠ 2 → j ≠ 4 → j ≠ 5 → T' j = T j) ∧ ∀ j, j ≠ 1 → V' j = V j := by
  unfold F_X11_dropAll F_X12_dropAll
  obtain ⟨k, spot', k1, k2, k3⟩ := take_both hN ht spot
  rw [k1, k2, bd_some, bd_some]
  rcases k3 with rfl | ⟨hk, hne⟩
  · exact ⟨-1002, T, V, g, [], 0, 0, spot', by rw [if_pos rfl], by rw [if_pos kc_0], ht.nil, hs.nil, fun _ _ _ _ _ => rfl, fun _ _ => rfl⟩
  obtain ⟨p, q, h, hI, hB, hq⟩ := hs
  obtain ⟨r, T', V', g', c1, c2, c3, c4, c5, c6⟩ := s_drops hN (by' := 2) (Or.inr (Or.inr (Or.inl ⟨rfl, hk, rfl⟩))) 9 (Or.inr ⟨by decide, rfl⟩) h hI
  have c2' : F_X12_drops N g 2 (kc k) 9 = some (r, g') := c2
  exact ⟨r, T', V', g', [], 0, 0, spot', by rw [if_neg (kc_ne0 hk).1, c1, bd_some], by rw [if_neg (kc_ne0 hk).2, c2', bd_some], ht.nil, ⟨p, q, c3, c4, hB.le (by rw [c5 6 (by decide) (by decide) (by decide) (by decide)]; exact Nat.le_refl _) (by rw [c5 7 (by decide) (by decide) (by decide) (by decide)]; exact Nat.le_refl _), by rw [ne1_nil]; omega⟩, c5, c6⟩
theorem n_tag (x : Int32) : (F_X11_isTag x = some 0 ∧ F_X12_in x 0 7 = some 0) ∨ (F_X11_isTag x = some 1 ∧ F_X12_in x 0 7 = some 1) := by
  unfold F_X11_isTag
  rw [k_in]
  by_cases h1 : x < 0
  · left
    rw [if_pos h1, if_neg (fun q => Int32.lt_irrefl (Int32.lt_of_lt_of_le h1 q.1))]
    exact ⟨rfl, rfl⟩
  · rw [if_neg h1]
    by_cases h2 : 8 ≤ x
    · left
      rw [if_pos h2, if_neg (fun q => absurd (Int32.le_trans h2 q.2) (by decide))]
      exact ⟨rfl, rfl⟩
    · right
      obtain ⟨j, hj, e, -, -, -⟩ := pk_mu h1 (L := 8) h2 (by decide)
      have h4 : x ≤ 7 := by rw [e]; exact nI_le (b := 7) (by omega) (by omega)
      rw [if_neg h2, if_pos ⟨Int32.not_lt.mp h1, h4⟩]
      exact ⟨rfl, rfl⟩
theorem m_dropTag {N : Nat} (hN : 65536 ≤ N) {c : Nat} {tp : List Nat} {T : Nat → Rows} {V : Nat → Nat → Int32} {g : Nat → Int32} (hs : SQ c tp T V g) (x : Int32) :
    ∃ (r : Int32) (T' : Nat → Rows) (V' : Nat → Nat → Int32) (g' : Nat → Int32), F_X11_dropTag N (V 0) (V 4 0) (T 0) (T 2) (V 1) (T 4) (T 5) x = some (r, T' 0, T' 2, V' 1, T' 4, T' 5) ∧ F_X12_dropTag N g x = some (r, g') ∧ SQ (c + 1) tp T' V' g' ∧ (∀ j, j ≠ 0 → j ≠ 2 → j ≠ 4 → j ≠ 5 → T' j = T j) ∧ ∀ j, j ≠ 1 → V' j = V j := by
  unfold F_X11_dropTag F_X12_dropTag
  rcases n_tag x with ⟨a1, a2⟩ | ⟨a1, a2⟩
  · exact ⟨-1001, T, V, g, by rw [a1, bd_some, if_pos rfl], by rw [a2, bd_some, if_pos rfl], hs.up, fun _ _ _ _ _ => rfl, fun _ _ => rfl⟩
  obtain ⟨p, q, h, hI, hB, hq⟩ := hs
  obtain ⟨r, T', V', g', c1, c2, c3, c4, c5, c6⟩ := s_drops hN (by' := 1) (what := x) (Or.inr (Or.inl ⟨rfl, rfl⟩)) 9 (Or.inr ⟨by decide, rfl⟩) h hI
  have c2' : F_X12_drops N g 1 x 9 = some (r, g') := c2
  exact ⟨r, T', V', g', by rw [a1, bd_some, if_neg one_ne, c1, bd_some], by rw [a2, bd_some, if_neg one_ne, c2', bd_some], ⟨p, q, c3, c4, hB.le (by rw [c5 6 (by decide) (by decide) (by decide) (by decide)]; exact Nat.le_refl _) (by rw [c5 7 (by decide) (by decide) (by decide) (by decide)]; exact Nat.le_refl _), by omega⟩, c5, c6⟩
theorem m_sweep {N : Nat} (hN : 65536 ≤ N) {c : Nat} {tp : List Nat} {T : Nat → Rows} {V : Nat → Nat → Int32} {g : Nat → Int32} (hs : SQ c tp T V g) :
    ∃ (r : Int32) (T' : Nat → Rows) (V' : Nat → Nat → Int32) (g' : Nat → Int32), F_X11_sweep N (V 0) (V 4 0) (T 0) (T 2) (V 1) (T 4) (T 5) = some (r, T' 0, T' 2, V' 1, T' 4, T' 5) ∧ F_X12_sweep N g = some (r, g') ∧ SQ (c + 1) tp T' V' g' ∧ (∀ j, j ≠ 0 → j ≠ 2 → j ≠ 4 → j ≠ 5 → T' j = T j) ∧ ∀ j, j ≠ 1 → V' j = V j := by
  unfold F_X11_sweep F_X12_sweep
  obtain ⟨p, q, h, hI, hB, hq⟩ := hs
  obtain ⟨r, T', V', g', c1, c2, c3, c4, c5, c6⟩ := s_drops hN (by' := 3) (what := 0) (x2 := 0) (Or.inr (Or.inr (Or.inr rfl))) 8 (Or.inl ⟨rfl, rfl⟩) h hI
  have c2' : F_X12_drops N g 3 0 8 = some (r, g') := c2
  exact ⟨r, T', V', g', by rw [c1, bd_some], by rw [c2', bd_some], ⟨p, q, c3, c4, hB.le (by rw [c5 6 (by decide) (by decide) (by decide) (by decide)]; exact Nat.le_refl _) (by rw [c5 7 (by decide) (by decide) (by decide) (by decide)]; exact Nat.le_refl _), by omega⟩, c5, c6⟩
