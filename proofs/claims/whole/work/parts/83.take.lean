/-! ===== take, first, box: both sides ===== -/
theorem in01 (x lo hi : Int32) : (F_X12_in x lo hi = some 0 ∧ ¬ (lo ≤ x ∧ x ≤ hi)) ∨ (F_X12_in x lo hi = some 1 ∧ lo ≤ x ∧ x ≤ hi) := by
  rw [k_in]
  by_cases h : lo ≤ x ∧ x ≤ hi
  · right; rw [if_pos h]; exact ⟨rfl, h⟩
  · left; rw [if_neg h]; exact ⟨rfl, h⟩
theorem one_ne : ¬ (1 : Int32) = 0 := by decide
theorem find_row {p : List Int32 → Bool} : ∀ {rows : Rows} {i : Nat}, rows.findIdx? p = some i → rw' (rows.filter p) 0 = rw' rows i ∧ 0 < (rows.filter p).length
  | [], i, h => by simp at h
  | r :: rs, i, h => by
    rw [List.findIdx?_cons] at h
    cases hp : p r with
    | true =>
      rw [hp, if_pos rfl] at h
      cases h
      rw [List.filter_cons, hp, if_pos rfl]
      exact ⟨rfl, Nat.succ_pos _⟩
    | false =>
      rw [hp, if_neg (by decide)] at h
      cases hf : rs.findIdx? p with
      | none => rw [hf] at h; cases h
      | some j =>
        rw [hf] at h
        have hj : j + 1 = i := Option.some.inj h
        subst hj
        rw [List.filter_cons, hp]
        exact find_row hf
theorem fk_pA (boxes : Rows) (a : Nat) : fk 0 boxes (nI a) = boxes.findIdx? (pA a) := rfl
theorem bx_zero {boxes : Rows} {a : Nat} : (bx boxes a).length = 0 ↔ fk 0 boxes (nI a) = none := by
  constructor
  · intro h
    cases hf : fk 0 boxes (nI a) with
    | none => rfl
    | some i =>
      have := (find_row (p := pA a) (rows := boxes) hf).2
      have h' : (boxes.filter (pA a)).length = 0 := h
      omega
  · intro h
    cases hz : (bx boxes a).length with
    | zero => rfl
    | succ n =>
      obtain ⟨i, hi⟩ := find_some (boxes := boxes) (a := a) (by omega)
      rw [fk_pA, hi] at h
      cases h
theorem n_firstD (boxes : Rows) (a : Nat) : F_X3_firstDelivery boxes (nI a) = some (oI (fk 0 boxes (nI a))) := by
  unfold F_X3_firstDelivery
  rw [lt_b, tfind_oI boxes 0 0 rfl (by decide)]
theorem e_box (a : Nat) : (8003 : Int32) + nI a = nI (8003 + a) := nI_add 8003 a
theorem e_bof (a : Nat) : (8019 : Int32) + 24 * nI a = nI (8019 + 24 * a) := by
  have : (24 : Int32) * nI a = nI (24 * a) := pk_mul 24 a
  rw [this]
  exact nI_add 8019 _
theorem e_of (a c : Nat) : (8403 : Int32) + 4 * nI a + nI c = nI (8403 + (a * 4 + c)) := by
  have : (4 : Int32) * nI a = nI (4 * a) := pk_mul 4 a
  have e2 : (8403 : Int32) + nI (4 * a) = nI (8403 + 4 * a) := nI_add 8403 _
  rw [this, e2, nI_add]
  congr 1
  omega
theorem m_take {N : Nat} (hN : 65536 ≤ N) {c : Nat} {tp : List Nat} {T : Nat → Rows} {V : Nat → Nat → Int32} {g : Nat → Int32} (hs : SQ c tp T V g) (x : Int32) :
    ∃ (r : Int32) (T' : Nat → Rows) (V' : Nat → Nat → Int32) (g' : Nat → Int32), F_X11_take (V 2) (T 8) x = some (r, V' 2, T' 8) ∧ F_X12_take N g x = some (r, g') ∧ SQ (c + 1) tp T' V' g' ∧ (∀ j, j ≠ 8 → T' j = T j) ∧ ∀ j, j ≠ 2 → V' j = V j := by
  unfold F_X11_take F_X12_take
  rcases n_asker x with ⟨a1, a2⟩ | ⟨a1, a2, a, ha, rfl⟩
  · rw [a1, a2, bd_some, bd_some]
    exact ⟨-1001, T, V, g, by rw [if_pos rfl], by rw [if_pos rfl], hs.up, fun _ _ => rfl, fun _ _ => rfl⟩
  have hs0 := hs
  obtain ⟨p, q, h, hI, hB, hq⟩ := hs
  have hba := h.b a ha
  have hcnt : g (8003 + a) = nI (bx (T 8) a).length := by rw [hba.1.1, List.length_map]
  rw [a1, a2, bd_some, bd_some, if_neg one_ne, if_neg one_ne, n_firstD, bd_some, e_box, gl _ (8003 + a) rfl (by omega), hcnt]
  cases hf : fk 0 (T 8) (nI a) with
  | none =>
    have hz := bx_zero.mpr hf
    exact ⟨-1003, T, V, g, by rw [if_pos (show oI none = -1 from rfl)], by rw [if_pos (show nI (bx (T 8) a).length = 0 by rw [hz]; rfl)], hs0.up, fun _ _ => rfl, fun _ _ => rfl⟩
  | some i =>
    obtain ⟨hil, -⟩ := fk_lt hf
    obtain ⟨fr, fpos⟩ := find_row (p := pA a) (rows := T 8) hf
    have fpos' : 0 < (bx (T 8) a).length := fpos
    have h192 := box_le hI.ld.2.2.2.2.1 (b12_of h.b)
    have hne : ¬ oI (some i) = -1 := fun z => by
      have := (oI_m1 (o := some i) (fun j hj => by cases hj; omega)).mp z
      cases this
    have hoe : oI (some i) = nI i := rfl
    obtain ⟨g1, t1, t2, t3⟩ := g_takesOut hN hba.1 (by decide) (by rw [List.length_map]; have := hba.2; omega) (by omega) (Or.inl (by omega)) (i := 0) (by rw [List.length_map]; exact fpos)
    rw [List.length_map] at t3
    obtain ⟨er1, er2⟩ := erase_first (p := pA a) (rows := T 8) hf
    have bxa : bx ((T 8).eraseIdx i) a = (bx (T 8) a).drop 1 := er1
    have bxb : ∀ b, b < 16 → b ≠ a → bx ((T 8).eraseIdx i) b = bx (T 8) b := fun b hb hba => er2 (pA b) (fun r hr => by
      have h1 : r.getD 0 0 = nI b := by simpa using hr
      have h2 : ¬ nI b = nI a := fun e => hba ((nI_eq (by omega) (by omega)).mp e)
      unfold pA
      rw [h1, decide_eq_false h2])
    have r1 : RR (va_up T 8 ((T 8).eraseIdx i)) V g1 := by
      refine h.uRB (fun b hb => ?_) (fun p hp hq => t3 p (by omega) (by have := hba.2; omega))
      by_cases z : b = a
      · subst z
        rw [bxa]
        refine ⟨?_, by rw [List.length_drop]; have := hba.2; omega⟩
        rw [drop_erase (by rw [List.length_map]; exact fpos), ← List.map_drop] at t2
        exact t2
      · rw [bxb b hb z]
        have hbb := h.b b hb
        have hbl := hbb.2
        have hal := hba.2
        refine ⟨hbb.1.frame (t3 _ (by omega) (by omega)) (fun p h5 h6 => ?_), hbb.2⟩
        rw [List.length_map] at h6
        have hab : 24 * b + 24 ≤ 24 * a ∨ 24 * a + 24 ≤ 24 * b := by omega
        exact t3 p (by omega) (by omega)
    have r2 := s_of r1 (j := a * 4 + 3) (by omega)
    have val : g (8019 + 24 * a + 1) = cl (rw' (T 8) i) 2 := by
      have := hba.1.2 0 1 (by rw [List.length_map]; exact fpos) (by decide)
      rw [show 8019 + 24 * a + (0 * 2 + 1) = 8019 + 24 * a + 1 by omega] at this
      rw [this]
      have e : ((bx (T 8) a).map mBx).getD 0 [] = mBx (rw' (bx (T 8) a) 0) := map_at mBx fpos
      rw [e, show rw' (bx (T 8) a) 0 = rw' (T 8) i from fr]
      rfl
    have e3 : nI (8019 + 24 * a) + 1 = nI (8019 + 24 * a + 1) := nI_1 _
    have e5 : (8403 : Int32) + 4 * nI a + 3 = nI (8403 + (a * 4 + 3)) := e_of a 3
    refine ⟨cl (rw' (T 8) i) 2, _, _, _, ?_, ?_, ⟨p, q, r2, ?_, hB, by omega⟩, fun j hj => vu_ne hj, fun j hj => vu_ne hj⟩
    · rw [if_neg hne, lt_b, hoe, tg i 2 2 rfl (by omega) (by decide), lt_b, tremove_nI (by omega), n_tallyOf (V 2) ha 3 rfl (by decide), bd_some]
      rfl
    · rw [if_neg (show ¬ nI (bx (T 8) a).length = 0 from fun z => by have := (nI_eq (a := (bx (T 8) a).length) (b := 0) (by have := hba.2; omega) (by omega)).mp z; omega), e_bof, e3, gl _ (8019 + 24 * a + 1) rfl (by omega), val]
      have t1' : F_X12_takesOut N g (nI (8003 + a)) (nI (8019 + 24 * a)) 2 0 = some g1 := t1
      rw [t1', bd_some, e5, gl _ (8403 + (a * 4 + 3)) rfl (by omega), gs _ (8403 + (a * 4 + 3)) rfl (by omega)]
    · exact ⟨hI.r, hI.i0, hI.x, hI.sum, hI.cold, hI.n, hI.sk, ⟨hI.ld.1, hI.ld.2.1, hI.ld.2.2.1, hI.ld.2.2.2.1, fun r hr => hI.ld.2.2.2.2.1 r (List.mem_of_mem_eraseIdx hr), hI.ld.2.2.2.2.2⟩⟩
theorem n_tells {N : Nat} (hN : 65536 ≤ N) {k : Int32} (hk : Vk k) {i : Int32} (hi : -1 ≤ i) : ∃ r, F_X11_lengthOrByte N k i = some r ∧ F_X12_keyTells N (kc k) i = some r := by
  obtain ⟨q, ks, h1, h2, rfl, rfl⟩ := hk
  rw [kc_eq ⟨ks, h1, h2, rfl, rfl⟩]
  exact ⟨_, k_loB hN h1, k_tells hN h1 (Int32.not_lt.mpr hi)⟩
theorem m_first {N : Nat} (hN : 65536 ≤ N) {c : Nat} {tp : List Nat} {T : Nat → Rows} {V : Nat → Nat → Int32} {g : Nat → Int32} (hs : SQ c tp T V g) (x i : Int32) : ∃ r, F_X11_first N (T 8) x i = some r ∧ F_X12_first N g x i = some r := by
  unfold F_X11_first F_X12_first
  rcases n_asker x with ⟨a1, a2⟩ | ⟨a1, a2, a, ha, rfl⟩
  · rw [a1, a2, bd_some, bd_some]
    exact ⟨-1001, by rw [if_pos rfl], by rw [if_pos rfl]⟩
  obtain ⟨p, q, h, hI, hB, hq⟩ := hs
  have hba := h.b a ha
  have hcnt : g (8003 + a) = nI (bx (T 8) a).length := by rw [hba.1.1, List.length_map]
  rw [a1, a2, bd_some, bd_some, if_neg one_ne, if_neg one_ne]
  by_cases hi : -1 ≤ i
  · rw [if_pos hi, if_pos hi, n_firstD, bd_some, e_box, gl _ (8003 + a) rfl (by omega), hcnt]
    cases hf : fk 0 (T 8) (nI a) with
    | none =>
      have hz := bx_zero.mpr hf
      exact ⟨-1005, by rw [if_pos (show oI none = -1 from rfl)], by rw [if_pos (show nI (bx (T 8) a).length = 0 by rw [hz]; rfl)]⟩
    | some j =>
      obtain ⟨hil, -⟩ := fk_lt hf
      obtain ⟨fr, fpos⟩ := find_row (p := pA a) (rows := T 8) hf
      have fpos' : 0 < (bx (T 8) a).length := fpos
      have h192 := box_le hI.ld.2.2.2.2.1 (b12_of h.b)
      have hne : ¬ oI (some j) = -1 := fun z => by
        have := (oI_m1 (o := some j) (fun j hj => by cases hj; omega)).mp z
        cases this
      have hoe : oI (some j) = nI j := rfl
      have val : g (8019 + 24 * a) = kc (cl (rw' (T 8) j) 1) := by
        have := hba.1.2 0 0 (by rw [List.length_map]; exact fpos) (by decide)
        rw [show 8019 + 24 * a + (0 * 2 + 0) = 8019 + 24 * a by omega] at this
        rw [this]
        have e : ((bx (T 8) a).map mBx).getD 0 [] = mBx (rw' (bx (T 8) a) 0) := map_at mBx fpos
        rw [e, show rw' (bx (T 8) a) 0 = rw' (T 8) j from fr]
        rfl
      have hv : Vk (cl (rw' (T 8) j) 1) := (hI.ld.2.2.2.2.1 _ (mem_at hil)).2
      obtain ⟨r, k1, k2⟩ := n_tells hN hv hi
      refine ⟨r, ?_, ?_⟩
      · rw [if_neg hne, lt_b, hoe, tg j 1 1 rfl (by omega) (by decide), k1, bd_some]
      · rw [if_neg (show ¬ nI (bx (T 8) a).length = 0 from fun z => by have := (nI_eq (a := (bx (T 8) a).length) (b := 0) (by have := hba.2; omega) (by omega)).mp z; omega), e_bof, gl _ (8019 + 24 * a) rfl (by omega), val, k2, bd_some]
  · exact ⟨-1001, by rw [if_neg hi], by rw [if_neg hi]⟩
/-! how many loads somebody waits for -/
theorem nd_count {L K : List Int32} (hL : L.Nodup) (hK : K.Nodup) (hs : ∀ x ∈ K, x ∈ L) : L.countP (fun y => decide (y ∈ K)) = K.length := by
  rw [List.countP_eq_length_filter]
  refine List.Perm.length_eq ((List.perm_ext_iff_of_nodup (hL.filter _) hK).mpr (fun y => ?_))
  rw [List.mem_filter]
  constructor
  · exact fun z => by simpa using z.2
  · exact fun z => ⟨hs y z, by simpa using z⟩
theorem iL_nodup {line : Rows} (h : iL line) : (line.map (fun r => cl r 0)).Nodup := by
  unfold List.Nodup
  rw [List.pairwise_map]
  exact h.2.2
def wn (waits : Rows) (x : Int32) : Nat := waits.countP (fun r => decide (cl r 1 = x))
def wa (line waits : Rows) (x : Int32) : Nat := line.countP (fun r => decide (x ∈ wl waits (cl r 0)))
theorem wa_eq {line waits : Rows} (hL : iL line) (hW : iW line waits) (hU : iU waits) (x : Int32) : wa line waits x = wn waits x := by
  have hK : ((waits.filter (fun r => decide (cl r 1 = x))).map (fun r => cl r 0)).Nodup := by
    unfold List.Nodup
    rw [List.pairwise_map]
    have h1 : (waits.filter (fun r => decide (cl r 1 = x))).Pairwise (fun r q => ¬ (cl r 0 = cl q 0 ∧ cl r 1 = cl q 1)) := hU.sublist List.filter_sublist
    refine h1.imp_of_mem (fun {r q} hr hq hrq e => hrq ⟨e, ?_⟩)
    have b1 : cl r 1 = x := by simpa using (List.mem_filter.mp hr).2
    have b2 : cl q 1 = x := by simpa using (List.mem_filter.mp hq).2
    rw [b1, b2]
  have e := nd_count (iL_nodup hL) hK (fun y hy => by
    obtain ⟨r, hr, rfl⟩ := List.mem_map.mp hy
    obtain ⟨⟨q, hq, e⟩, -⟩ := hW r (List.mem_filter.mp hr).1
    exact List.mem_map.mpr ⟨q, hq, e⟩)
  rw [List.length_map, ← List.countP_eq_length_filter, List.countP_map] at e
  unfold wa wn
  rw [← e]
  refine List.countP_congr (fun r _ => ?_)
  simp only [decide_eq_true_eq, Function.comp_apply]
  unfold wl
  constructor
  · intro z
    obtain ⟨q, hq, e⟩ := List.mem_map.mp z
    obtain ⟨h1, h2⟩ := List.mem_filter.mp hq
    have h2' : cl q 0 = cl r 0 := by simpa using h2
    exact List.mem_map.mpr ⟨q, List.mem_filter.mpr ⟨h1, decide_eq_true e⟩, h2'⟩
  · intro z
    obtain ⟨q, hq, e⟩ := List.mem_map.mp z
    obtain ⟨h1, h2⟩ := List.mem_filter.mp hq
    have h2' : cl q 1 = x := by simpa using h2
    exact List.mem_map.mpr ⟨q, List.mem_filter.mpr ⟨h1, decide_eq_true e⟩, h2'⟩
theorem s_boxL {N : Nat} (hN : 65536 ≤ N) {g : Nat → Int32} {line waits : Rows} (h : RL g line waits) (x : Int32) : ∀ (n i s : Nat), i ≤ line.length → line.length < n + i → L_X12_box_40 N (fun x3 => some x3) x g n (nI s) (nI i) = some (nI (s + wa (line.drop i) waits x)) := by
  have h256 : line.length ≤ 256 := by obtain ⟨lr, hG, hle, h6, -⟩ := h; exact h6
  have hm : g 15 = nI line.length := by obtain ⟨lr, hG, hlr, -, -⟩ := h; rw [hG.1, hlr]
  intro n
  induction n with
  | zero => intro i s h1 h2; omega
  | succ n ih =>
    intro i s h1 h2
    rw [e_X12_box_40]
    unfold K_X12_box_40
    rw [gl 15 15 rfl (by decide), hm]
    by_cases q : i = line.length
    · rw [if_pos (by rw [q]; exact nI_le (Nat.le_refl _) (by omega)), q, List.drop_length]
      rfl
    · have hi : i < line.length := by omega
      have h16 := (LR16 h hi).1
      rw [if_neg (nI_ge hi (by omega)), s_waiterOf hN h hi rfl x, bd_some, drop_get hi]
      have e : wa (List.getD line i [] :: line.drop (i + 1)) waits x = wa (line.drop (i + 1)) waits x + if x ∈ wl waits (cl (rw' line i) 0) then 1 else 0 := by
        unfold wa
        rw [List.countP_cons]
        simp only [decide_eq_true_eq]
      rw [e]
      have h31 : ∀ j, fx (wl waits (cl (rw' line i) 0)) x = some j → j < 2 ^ 31 := fun j hj => by
        unfold fx at hj
        rw [List.findIdx?_eq_some_iff_getElem] at hj
        obtain ⟨h1, -⟩ := hj
        omega
      by_cases q2 : x ∈ wl waits (cl (rw' line i) 0)
      · rw [if_neg (fun z => (fx_none.mp ((oI_neg h31).mp z)) q2), if_pos q2]
        unfold J_X12_box_68
        rw [lt_b, lt_b, nI_1, nI_1, ih (i + 1) (s + 1) (by omega) (by omega)]
        congr 2
        omega
      · rw [if_pos ((oI_neg h31).mpr (fx_none.mpr q2)), if_neg q2]
        unfold J_X12_box_68
        have e0 : nI s + 0 = nI s := Int32.add_zero _
        rw [lt_b, lt_b, nI_1, e0, ih (i + 1) s (by omega) (by omega)]
        rfl
theorem s_box1 {N : Nat} (hN : 65536 ≤ N) {T : Nat → Rows} {V : Nat → Nat → Int32} {g : Nat → Int32} {p : P} (h : RR T V g) (hI : Iv p T V) (x : Int32) : L_X12_box_40 N (fun x3 => some x3) x g N 0 0 = some (nI (wn (T 7) x)) := by
  have h256 : (T 6).length ≤ 256 := by obtain ⟨lr, hG, hle, h6, -⟩ := h.l; exact h6
  have := s_boxL hN h.l x N 0 0 (by omega) (by omega)
  rw [nI_0, List.drop_zero, wa_eq hI.ld.1 hI.ld.2.1 hI.ld.2.2.1, Nat.zero_add] at this
  exact this
theorem m_box {N : Nat} (hN : 65536 ≤ N) {c : Nat} {tp : List Nat} {T : Nat → Rows} {V : Nat → Nat → Int32} {g : Nat → Int32} (hs : SQ c tp T V g) (x y : Int32) : ∃ r, F_X11_box (T 7) (T 8) x y = some r ∧ F_X12_box N g x y = some r := by
  unfold F_X11_box F_X12_box
  rcases n_asker x with ⟨a1, a2⟩ | ⟨a1, a2, a, ha, rfl⟩
  · rw [a1, a2, bd_some, bd_some]
    exact ⟨-1001, by rw [if_pos rfl], by rw [if_pos rfl]⟩
  obtain ⟨p, q, h, hI, hB, hq⟩ := hs
  have hba := h.b a ha
  have hcnt : g (8003 + a) = nI (bx (T 8) a).length := by rw [hba.1.1, List.length_map]
  rw [a1, a2, bd_some, bd_some, if_neg one_ne, if_neg one_ne]
  rcases in01 y 0 1 with ⟨b1, b2⟩ | ⟨b1, b2, b3⟩
  · refine ⟨-1001, ?_, by rw [b1, bd_some, if_pos rfl]⟩
    by_cases h1 : y < 0
    · rw [if_pos h1]
    · rw [if_neg h1, if_neg (fun z => b2 ⟨Int32.not_lt.mp h1, z⟩)]
  · rw [b1, bd_some, if_neg one_ne, if_neg (Int32.not_lt.mpr b2), if_pos b3]
    by_cases h3 : y = 0
    · refine ⟨nI (bx (T 8) a).length, ?_, ?_⟩
      · rw [if_pos h3, lt_b, howMany_eq _ 0 0 rfl (by decide), List.countP_eq_length_filter]; rfl
      · rw [if_pos h3, e_box, gl _ (8003 + a) rfl (by omega), hcnt]
    · refine ⟨nI (wn (T 7) (nI a)), ?_, ?_⟩
      · rw [if_neg h3, lt_b, howMany_eq _ 1 1 rfl (by decide)]; rfl
      · rw [if_neg h3]; exact s_box1 hN h hI _
