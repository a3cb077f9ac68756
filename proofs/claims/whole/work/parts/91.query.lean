/-! ===== entry, seen, sketch, cold, book, led, tagged, count: both sides ===== -/
theorem n_one (b : Int32) : F_X11_oneIf b = some (if b = 0 then 0 else 1) := by
  unfold F_X11_oneIf
  split <;> rfl
theorem m_entry {N : Nat} (hN : 65536 ≤ N) {c : Nat} {tp : List Nat} {T : Nat → Rows} {V : Nat → Nat → Int32} {g : Nat → Int32} (hs : SQ c tp T V g) {tby : Nat → Int32} {tsz : Int32} {tape : Nat → Int32} {taped : Int32} (ht : TR tp tby tsz tape taped) (spot x : Int32) :
    ∃ (r : Int32) (tp' : List Nat) (tsz' taped' spot' : Int32), F_X11_entry N tby tsz (V 0) (V 4 0) (T 4) x = some (r, tsz') ∧ F_X12_entry N g tape taped spot x = some (r, taped', spot') ∧ TR tp' tby tsz' tape taped' ∧ SQ (c + 1) tp' T V g := by
  unfold F_X11_entry F_X12_entry
  rcases in01 x 0 9 with ⟨b1, b2⟩ | ⟨b1, b2, b3⟩
  · refine ⟨-1001, tp, tsz, taped, spot, ?_, by rw [b1, bd_some, if_pos rfl], ht, hs.up⟩
    by_cases h1 : x < 0
    · rw [if_pos h1]
    · rw [if_neg h1, if_neg (fun z => b2 ⟨Int32.not_lt.mp h1, z⟩)]
  obtain ⟨k, spot', k1, k2, k3⟩ := take_both hN ht spot
  rw [b1, bd_some, if_neg one_ne, if_neg (Int32.not_lt.mpr b2), if_pos b3, k1, k2, bd_some, bd_some]
  rcases k3 with rfl | ⟨hk, hne⟩
  · exact ⟨-1002, [], 0, 0, spot', by rw [if_pos rfl], by rw [if_pos kc_0], ht.nil, hs.nil⟩
  have hs0 := hs.nil
  obtain ⟨p, q, h, hI, hB, hq⟩ := hs
  have h200 := h.e.2
  rw [if_neg (kc_ne0 hk).1, if_neg (kc_ne0 hk).2, n_rowOf, bd_some, s_entry hN h.e hI.i0.1.iE hk, bd_some]
  cases hf : fk 7 (T 4) k with
  | none => exact ⟨-1003, [], 0, 0, spot', by rw [if_pos (show oI none = -1 from rfl)], by rw [if_neg (show ¬ (0 : Int32) ≤ oI none by decide)], ht.nil, hs0⟩
  | some e =>
    obtain ⟨hel, hek⟩ := fk_lt hf
    have hne' : ¬ oI (some e) = -1 := fun z => by
      have := (oI_m1 (o := some e) (fun j hj => by cases hj; omega)).mp z
      cases this
    have hoe : oI (some e) = nI e := rfl
    have hn : ∀ j c, c < 9 → j = nI c → F_X12_at g (nI e) j = some (cl (mEn (rw' (T 4) e)) c) := fun j c hc hj => s_at h.e hel j c hj hc
    rw [if_neg hne', if_pos (show (0 : Int32) ≤ oI (some e) from nI_pos' (by omega)), hoe]
    obtain ⟨j, hj, ej⟩ := nI_ofx (M := 9) (n := 9) rfl b2 b3
    subst ej
    have get : ∀ c, c < 7 → F_X0_get 200 (T 4) (nI e) (nI c) = some (cl (rw' (T 4) e) c) := fun c hc => n_get0 (by omega) (nI c) c rfl (by omega)
    match j, hj with
    | 0, _ => exact ⟨_, [], 0, 0, spot', by rw [if_neg (by decide), if_neg (by decide), if_neg (by decide), get 0 (by decide), bd_some], by rw [if_pos (by decide), hn 1 1 (by decide) rfl, bd_some]; rfl, ht.nil, hs0⟩
    | 1, _ => exact ⟨_, [], 0, 0, spot', by rw [if_neg (by decide), if_neg (by decide), if_neg (by decide), get 1 (by decide), bd_some], by rw [if_neg (by decide), if_pos (by decide), hn 2 2 (by decide) rfl, bd_some]; rfl, ht.nil, hs0⟩
    | 2, _ => exact ⟨_, [], 0, 0, spot', by rw [if_neg (by decide), if_neg (by decide), if_neg (by decide), get 2 (by decide), bd_some], by rw [if_neg (by decide), if_neg (by decide), if_pos (by decide), hn 3 3 (by decide) rfl, bd_some]; rfl, ht.nil, hs0⟩
    | 3, _ => exact ⟨_, [], 0, 0, spot', by rw [if_neg (by decide), if_neg (by decide), if_neg (by decide), get 3 (by decide), bd_some], by rw [if_neg (by decide), if_neg (by decide), if_neg (by decide), if_pos (by decide), hn 5 5 (by decide) rfl, bd_some]; rfl, ht.nil, hs0⟩
    | 4, _ => exact ⟨_, [], 0, 0, spot', by rw [if_neg (by decide), if_neg (by decide), if_neg (by decide), get 4 (by decide), bd_some], by rw [if_neg (by decide), if_neg (by decide), if_neg (by decide), if_neg (by decide), if_pos (by decide), hn 6 6 (by decide) rfl, bd_some]; rfl, ht.nil, hs0⟩
    | 5, _ => exact ⟨_, [], 0, 0, spot', by rw [if_neg (by decide), if_neg (by decide), if_neg (by decide), get 5 (by decide), bd_some], by rw [if_neg (by decide), if_neg (by decide), if_neg (by decide), if_neg (by decide), if_neg (by decide), if_pos (by decide), hn 7 7 (by decide) rfl, bd_some]; rfl, ht.nil, hs0⟩
    | 6, _ => exact ⟨_, [], 0, 0, spot', by rw [if_neg (by decide), if_neg (by decide), if_neg (by decide), get 6 (by decide), bd_some], by rw [if_neg (by decide), if_neg (by decide), if_neg (by decide), if_neg (by decide), if_neg (by decide), if_neg (by decide), if_pos (by decide), hn 4 4 (by decide) rfl, bd_some]; rfl, ht.nil, hs0⟩
    | 7, _ =>
      rw [if_pos (show nI 7 = 7 by decide), if_neg (show ¬ nI 7 = 0 by decide), if_neg (show ¬ nI 7 = 1 by decide), if_neg (show ¬ nI 7 = 2 by decide), if_neg (show ¬ nI 7 = 3 by decide), if_neg (show ¬ nI 7 = 4 by decide), if_neg (show ¬ nI 7 = 5 by decide), if_neg (show ¬ nI 7 = 6 by decide), if_pos (show nI 7 = 7 by decide), n_stale (by omega), s_stale h.z h.e hel, bd_some, bd_some, n_one, bd_some]
      by_cases z : stI (V 0) (V 4 0) (cl (rw' (T 4) e) 6) = 0
      · exact ⟨0, [], 0, 0, spot', by rw [if_pos z], by rw [if_pos z], ht.nil, hs0⟩
      · exact ⟨1, [], 0, 0, spot', by rw [if_neg z], by rw [if_neg z], ht.nil, hs0⟩
    | 8, _ =>
      rw [if_neg (show ¬ nI 8 = 7 by decide), if_pos (show nI 8 = 8 by decide), if_neg (show ¬ nI 8 = 0 by decide), if_neg (show ¬ nI 8 = 1 by decide), if_neg (show ¬ nI 8 = 2 by decide), if_neg (show ¬ nI 8 = 3 by decide), if_neg (show ¬ nI 8 = 4 by decide), if_neg (show ¬ nI 8 = 5 by decide), if_neg (show ¬ nI 8 = 6 by decide), if_neg (show ¬ nI 8 = 7 by decide), if_pos (show nI 8 = 8 by decide), n_due (by omega), s_due h.z h.e hel, bd_some, bd_some, n_one, bd_some]
      by_cases z : duI (V 0) (V 4 0) (cl (rw' (T 4) e) 6) = 0
      · exact ⟨0, [], 0, 0, spot', by rw [if_pos z], by rw [if_pos z], ht.nil, hs0⟩
      · exact ⟨1, [], 0, 0, spot', by rw [if_neg z], by rw [if_neg z], ht.nil, hs0⟩
    | 9, _ =>
      have e8 : cl (mEn (rw' (T 4) e)) 8 = cl (rw' (T 4) e) 8 := rfl
      rw [if_neg (show ¬ nI 9 = 7 by decide), if_neg (show ¬ nI 9 = 8 by decide), if_pos (show nI 9 = 9 by decide), if_neg (show ¬ nI 9 = 0 by decide), if_neg (show ¬ nI 9 = 1 by decide), if_neg (show ¬ nI 9 = 2 by decide), if_neg (show ¬ nI 9 = 3 by decide), if_neg (show ¬ nI 9 = 4 by decide), if_neg (show ¬ nI 9 = 5 by decide), if_neg (show ¬ nI 9 = 6 by decide), if_neg (show ¬ nI 9 = 7 by decide), if_neg (show ¬ nI 9 = 8 by decide), n_dirty (by omega), hn 8 8 (by decide) rfl, bd_some, bd_some, n_one, bd_some, e8]
      by_cases z : cl (rw' (T 4) e) 8 = 0
      · exact ⟨0, [], 0, 0, spot', by rw [if_pos z, if_pos rfl], by rw [if_pos z], ht.nil, hs0⟩
      · exact ⟨1, [], 0, 0, spot', by rw [if_neg z, if_neg one_ne], by rw [if_neg z], ht.nil, hs0⟩
    | j + 10, hj => omega
theorem m_seen {N : Nat} (hN : 65536 ≤ N) {c : Nat} {tp : List Nat} {T : Nat → Rows} {V : Nat → Nat → Int32} {g : Nat → Int32} (hs : SQ c tp T V g) {tby : Nat → Int32} {tsz : Int32} {tape : Nat → Int32} {taped : Int32} (ht : TR tp tby tsz tape taped) (spot : Int32) :
    ∃ (r : Int32) (tp' : List Nat) (tsz' taped' spot' : Int32), F_X11_seen N tby tsz (V 3) = some (r, tsz') ∧ F_X12_seen N g tape taped spot = some (r, taped', spot') ∧ TR tp' tby tsz' tape taped' ∧ SQ (c + 1) tp' T V g := by
  unfold F_X11_seen F_X12_seen
  obtain ⟨k, spot', k1, k2, k3⟩ := take_both hN ht spot
  rw [k1, k2, bd_some, bd_some]
  rcases k3 with rfl | ⟨hk, hne⟩
  · exact ⟨-1002, [], 0, 0, spot', by rw [if_pos rfl], by rw [if_pos kc_0], ht.nil, hs.nil⟩
  have hs0 := hs.nil
  obtain ⟨p, q, h, hI, hB, hq⟩ := hs
  exact ⟨_, [], 0, 0, spot', by rw [if_neg (kc_ne0 hk).1, n_least hN (Or.inr hk), bd_some], by rw [if_neg (kc_ne0 hk).2, s_seen hN h.s hk, bd_some], ht.nil, hs0⟩
theorem m_sketch {c : Nat} {tp : List Nat} {T : Nat → Rows} {V : Nat → Nat → Int32} {g : Nat → Int32} (hs : SQ c tp T V g) (x y : Int32) : ∃ r, F_X11_sketch (V 3) x y = some r ∧ F_X12_sketch g x y = some r := by
  obtain ⟨p, q, h, hI, hB, hq⟩ := hs
  unfold F_X11_sketch F_X12_sketch
  rcases in01 x 0 3 with ⟨b1, b2⟩ | ⟨b1, b2, b3⟩
  · refine ⟨-1001, ?_, by rw [b1, bd_some, if_pos rfl]⟩
    by_cases h1 : x < 0
    · rw [if_pos h1]
    · rw [if_neg h1]
      by_cases h2 : 4 ≤ x
      · rw [if_pos h2]
      · obtain ⟨j, hj, e⟩ := idx h1 (L := 4) (Int32.not_le.mp h2) (by decide)
        exact absurd ⟨Int32.not_lt.mp h1, by rw [e]; exact nI_le (b := 3) (by omega) (by decide)⟩ b2
  obtain ⟨i, hi, ei⟩ := nI_ofx (M := 3) (n := 3) rfl b2 b3
  subst ei
  rw [b1, bd_some, if_neg one_ne, if_neg (nI_pos (by omega)), if_neg (show ¬ (4 : Int32) ≤ nI i from nI_ge (b := 4) (by omega) (by decide))]
  rcases in01 y 0 15 with ⟨d1, d2⟩ | ⟨d1, d2, d3⟩
  · refine ⟨-1001, ?_, by rw [d1, bd_some, if_pos rfl]⟩
    by_cases h1 : y < 0
    · rw [if_pos h1]
    · rw [if_neg h1]
      by_cases h2 : y < 16
      · obtain ⟨j, hj, e⟩ := idx h1 (L := 16) h2 (by decide)
        exact absurd ⟨Int32.not_lt.mp h1, by rw [e]; exact nI_le (b := 15) (by omega) (by decide)⟩ d2
      · rw [if_neg h2]
  obtain ⟨j, hj, ej⟩ := nI_ofx (M := 15) (n := 15) rfl d2 d3
  subst ej
  have e1 : nI i * 16 + nI j = nI (i * 16 + j) := by
    have : nI i * 16 = nI (i * 16) := pk_mul i 16
    rw [this, nI_add]
  have e2 : (34 : Int32) + 16 * nI i + nI j = nI (34 + 16 * i + j) := ix4 34 16 i j
  refine ⟨V 3 (i * 16 + j), ?_, ?_⟩
  · unfold F_X7_get
    rw [if_neg (nI_pos (by omega)), if_pos (show nI j < (16 : Int32) from nI_lt (b := 16) (by omega) (by decide)), lt_b, e1, if_neg (nI_pos (by omega)), if_neg (nI_ge (by omega) (by decide)), ldn rfl (by omega), bd_some]
  · rw [d1, bd_some, if_neg one_ne, e2, gl _ (34 + 16 * i + j) rfl (by omega), show 34 + 16 * i + j = 34 + (i * 16 + j) by omega, h.s _ (by omega)]
theorem m_cold {N : Nat} (hN : 65536 ≤ N) {c : Nat} {tp : List Nat} {T : Nat → Rows} {V : Nat → Nat → Int32} {g : Nat → Int32} (hs : SQ c tp T V g) (x y : Int32) : ∃ r, F_X11_cold N (T 5) x y = some r ∧ F_X12_cold N g x y = some r := by
  obtain ⟨p, q, h, hI, hB, hq⟩ := hs
  have h21 := h.c.2
  have hm : g 14 = nI (T 5).length := by rw [h.c.1.1, List.length_map]
  have es : tsize (T 5) = nI (T 5).length := rfl
  unfold F_X11_cold F_X12_cold F_X0_size
  by_cases h1 : x < 0
  · exact ⟨-1001, by rw [if_pos h1], by rw [if_pos h1]⟩
  rw [if_neg h1, if_neg h1]
  by_cases h2 : -3 ≤ y
  · rw [if_pos h2, if_pos h2, lt_b, bd_some, gl 14 14 rfl (by decide), hm, es]
    by_cases h3 : x < nI (T 5).length
    · obtain ⟨i, hi, rfl⟩ := idx h1 h3 (by omega)
      have hv : Vk (cl (rw' (T 5) i) 7) := (hI.i0.2.1 _ (mem_at hi)).1
      rw [if_pos h3, if_pos h3]
      unfold J_X12_cold_47
      by_cases h4 : y = -2
      · exact ⟨cl (rw' (T 5) i) 0, by rw [if_pos h4, n_get0 (by omega) 0 0 rfl (by decide), bd_some], by rw [if_neg (by rw [h4]; decide), if_pos h4, s_coldAt h.c hi 1 1 rfl (by decide), bd_some]; rfl⟩
      by_cases h5 : y = -3
      · exact ⟨cl (rw' (T 5) i) 6, by rw [if_neg h4, if_pos h5, n_get0 (by omega) 6 6 rfl (by decide), bd_some], by rw [if_neg (by rw [h5]; decide), if_neg h4, s_coldAt h.c hi 4 4 rfl (by decide), bd_some]; rfl⟩
      have h6 : -1 ≤ y := m21 (m32 h2 h5) h4
      obtain ⟨r, r1, r2⟩ := n_tells hN hv h6
      have e0 : cl (mCo (rw' (T 5) i)) 0 = kc (cl (rw' (T 5) i) 7) := rfl
      exact ⟨r, by rw [if_neg h4, if_neg h5, n_get0 (by omega) 7 7 rfl (by decide), bd_some, r1, bd_some], by rw [if_pos h6, s_coldAt h.c hi 0 0 rfl (by decide), bd_some, e0, r2, bd_some]⟩
    · exact ⟨-1003, by rw [if_neg h3], by rw [if_neg h3]⟩
  · exact ⟨-1001, by rw [if_neg h2], by rw [if_neg h2]⟩
theorem m_book {c : Nat} {tp : List Nat} {T : Nat → Rows} {V : Nat → Nat → Int32} {g : Nat → Int32} (hs : SQ c tp T V g) (x y : Int32) : ∃ r, F_X11_book (T 0) x y = some r ∧ F_X12_book g x y = some r := by
  obtain ⟨p, q, h, hI, hB, hq⟩ := hs
  have h40 := h.k.2
  have hm : g 19 = nI (T 0).length := h.k.1.1
  have es : tsize (T 0) = nI (T 0).length := rfl
  unfold F_X11_book F_X12_book
  by_cases h1 : x < 0
  · exact ⟨-1001, by rw [if_pos h1], by rw [if_pos h1]⟩
  rw [if_neg h1, if_neg h1]
  rcases in01 y 0 2 with ⟨b1, b2⟩ | ⟨b1, b2, b3⟩
  · refine ⟨-1001, ?_, by rw [b1, bd_some, if_pos rfl]⟩
    by_cases h2 : y < 0
    · rw [if_pos h2]
    · rw [if_neg h2]
      by_cases h3 : y < 3
      · obtain ⟨j, hj, e⟩ := idx h2 (L := 3) h3 (by decide)
        exact absurd ⟨Int32.not_lt.mp h2, by rw [e]; exact nI_le (b := 2) (by omega) (by decide)⟩ b2
      · rw [if_neg h3]
  obtain ⟨j, hj, ej⟩ := nI_ofx (M := 2) (n := 2) rfl b2 b3
  subst ej
  rw [b1, bd_some, if_neg one_ne, if_neg (nI_pos (by omega)), if_pos (show nI j < (3 : Int32) from nI_lt (b := 3) (by omega) (by decide)), lt_b, es, gl 19 19 rfl (by decide), hm]
  by_cases h4 : nI (T 0).length ≤ x
  · exact ⟨-1003, by rw [if_pos h4], by rw [if_pos h4]⟩
  obtain ⟨i, hi, rfl⟩ := idx h1 (Int32.not_le.mp h4) (by omega)
  have e2 : (8667 : Int32) + 3 * nI i + nI j = nI (8667 + 3 * i + j) := ix4 8667 3 i j
  have cell : g (8667 + 3 * i + j) = cl (rw' (T 0) i) j := by
    have := h.k.1.2 i j hi (by omega)
    rw [show 8667 + 3 * i + j = 8667 + (i * 3 + j) by omega]
    exact this
  exact ⟨_, by rw [if_neg h4, lt_b, tg i (nI j) j rfl (by omega) (by omega)], by rw [if_neg h4, e2, gl _ (8667 + 3 * i + j) rfl (by omega), cell]⟩
theorem m_led {c : Nat} {tp : List Nat} {T : Nat → Rows} {V : Nat → Nat → Int32} {g : Nat → Int32} (hs : SQ c tp T V g) (x : Int32) : ∃ r, F_X11_led (V 1) x = some r ∧ F_X12_led g x = some r := by
  obtain ⟨p, q, h, hI, hB, hq⟩ := hs
  unfold F_X11_led F_X12_led
  rcases in01 x 0 13 with ⟨b1, b2⟩ | ⟨b1, b2, b3⟩
  · refine ⟨-1001, ?_, by rw [b1, bd_some, if_pos rfl]⟩
    by_cases h2 : x < 0
    · rw [if_pos h2]
    · rw [if_neg h2]
      by_cases h3 : x < 14
      · obtain ⟨j, hj, e⟩ := idx h2 (L := 14) h3 (by decide)
        exact absurd ⟨Int32.not_lt.mp h2, by rw [e]; exact nI_le (b := 13) (by omega) (by decide)⟩ b2
      · rw [if_neg h3]
  obtain ⟨j, hj, ej⟩ := nI_ofx (M := 13) (n := 13) rfl b2 b3
  subst ej
  have e2 : (20 : Int32) + nI j = nI (20 + j) := nI_add 20 j
  unfold F_X2_sum
  exact ⟨_, by rw [if_neg (nI_pos (by omega)), if_pos (show nI j < (14 : Int32) from nI_lt (b := 14) (by omega) (by decide)), if_neg (nI_pos (by omega)), if_neg (nI_ge (by omega) (by decide)), ldn rfl (by omega), bd_some], by rw [b1, bd_some, if_neg one_ne, e2, gl _ (20 + j) rfl (by omega), h.d j (by omega)]⟩
/-! tagged -/
theorem tag_pick {N : Nat} {vals : Nat → Int32} {now x : Int32} (r : List Int32) : F_X0_isPicked N 1 vals now [r] 0 1 x = some (if ((cl r 2 >>> (x &&& 31)) &&& 1) = 1 then 1 else 0) := by
  unfold F_X0_isPicked
  have t : tget [r] 0 2 = cl r 2 := tg (rows := [r]) 0 2 2 rfl (by decide) (by decide)
  rw [if_neg one_ne, if_pos rfl, lt_b, t]
  rcases and1 (cl r 2 >>> (x &&& 31)) with z | z
  · rw [if_pos z, if_neg (by rw [z]; decide)]
  · rw [if_neg (by rw [z]; decide), if_pos z]
/-- what is added for a tagged row -/
def tgW (w : Nat) (x : Int32) (r : List Int32) : Int32 := if ((cl r 2 >>> (x &&& 31)) &&& 1) = 1 then (if w = 0 then 1 else if w = 1 then cl r 1 else cl r 3) else 0
def tgS (w : Nat) (x : Int32) (rows : Rows) (a : Int32) : Int32 := rows.foldl (fun a r => a + tgW w x r) a
theorem n_sumL {N : Nat} {vals : Nat → Int32} {now x : Int32} {rows : Rows} (hl : rows.length < 65536) (w : Nat) (col : Nat) (hw : (w = 1 ∧ col = 1) ∨ (w = 2 ∧ col = 3)) : ∀ (n i : Nat) (a : Int32), i ≤ rows.length → rows.length < n + i → L_X0_sum_6 N 200 (fun x4 => some x4) (nI col) 1 x vals now rows n a (nI i) = some (tgS w x (rows.drop i) a) := by
  intro n
  induction n with
  | zero => intro i a h1 h2; omega
  | succ n ih =>
    intro i a h1 h2
    rw [e_X0_sum_6]
    unfold K_X0_sum_6
    rw [lt_b]
    by_cases q : i = rows.length
    · rw [if_pos (show tsize rows ≤ nI i by rw [q]; exact nI_le (Nat.le_refl _) (by omega)), q, List.drop_length]
      rfl
    · have hi : i < rows.length := by omega
      rw [if_neg (show ¬ tsize rows ≤ nI i from nI_ge hi (by omega)), pick_row (by omega), tag_pick, bd_some, drop_get hi]
      unfold J_X0_sum_44
      rw [lt_b, lt_b, lt_b, lt_b, nI_1]
      have e : tgS w x (List.getD rows i [] :: rows.drop (i + 1)) a = tgS w x (rows.drop (i + 1)) (a + tgW w x (rw' rows i)) := rfl
      rw [e]
      unfold tgW
      by_cases z : ((cl (rw' rows i) 2 >>> (x &&& 31)) &&& 1) = 1
      · rw [if_pos z, if_neg one_ne, if_pos z, ih (i + 1) _ (by omega) (by omega), tg i (nI col) col rfl (by omega) (by omega)]
        rcases hw with ⟨rfl, rfl⟩ | ⟨rfl, rfl⟩ <;> rfl
      · rw [if_neg z, if_pos rfl, if_neg z, ih (i + 1) _ (by omega) (by omega), Int32.add_zero]
theorem n_sum0 {N : Nat} (vals : Nat → Int32) (now x : Int32) : ∀ (rows : Rows) (a : Nat), tgS 0 x rows (nI a) = nI (a + pn N vals now 1 x rows)
  | [], a => rfl
  | r :: rs, a => by
    rw [pn_cons]
    have e : tgS 0 x (r :: rs) (nI a) = tgS 0 x rs (nI a + tgW 0 x r) := rfl
    have ep : pkR N vals now 1 x r = if ((cl r 2 >>> (x &&& 31)) &&& 1) = 1 then 1 else 0 := by unfold pkR; rw [tag_pick]; rfl
    rw [e, ep]
    unfold tgW
    by_cases z : ((cl r 2 >>> (x &&& 31)) &&& 1) = 1
    · rw [if_pos z, if_pos z, if_neg one_ne, if_pos rfl, nI_1, n_sum0 (N := N) vals now x rs (a + 1)]
      congr 1
      omega
    · rw [if_neg z, if_neg z, if_pos rfl, Int32.add_zero, n_sum0 (N := N) vals now x rs a]
      rfl
theorem s_tagL {N : Nat} {g : Nat → Int32} {rows : Rows} (h : RE g rows) {x : Int32} (w : Nat) (hw : w < 3) : ∀ (n i : Nat) (a : Int32), i ≤ rows.length → rows.length < n + i → L_X12_tagged_28 N (fun x3 => some x3) x (nI w) g n a (nI i) = some (tgS w x (rows.drop i) a) := by
  have h200 := h.2
  intro n
  induction n with
  | zero => intro i a h1 h2; omega
  | succ n ih =>
    intro i a h1 h2
    rw [e_X12_tagged_28]
    unfold K_X12_tagged_28
    rw [gl 13 13 rfl (by decide), s_many h]
    by_cases q : i = rows.length
    · rw [if_pos (by rw [q]; exact nI_le (Nat.le_refl _) (by omega)), q, List.drop_length]
      rfl
    · have hi : i < rows.length := by omega
      have e3 : cl (mEn (rw' rows i)) 3 = cl (rw' rows i) 2 := rfl
      have e2 : cl (mEn (rw' rows i)) 2 = cl (rw' rows i) 1 := rfl
      have e5 : cl (mEn (rw' rows i)) 5 = cl (rw' rows i) 3 := rfl
      have e : tgS w x (List.getD rows i [] :: rows.drop (i + 1)) a = tgS w x (rows.drop (i + 1)) (a + tgW w x (rw' rows i)) := rfl
      rw [if_neg (nI_ge hi (by omega)), s_at h hi 3 3 rfl (by decide), bd_some, e3, drop_get hi, e]
      unfold J_X12_tagged_77 J_X12_tagged_80 J_X12_tagged_82
      rw [s_at h hi 2 2 rfl (by decide), s_at h hi 5 5 rfl (by decide), bd_some, bd_some, e2, e5, lt_b, lt_b, lt_b, lt_b, lt_b, lt_b, lt_b, nI_1]
      unfold tgW
      by_cases z : ((cl (rw' rows i) 2 >>> (x &&& 31)) &&& 1) = 1
      · rw [if_pos z, if_pos z]
        match w, hw with
        | 0, _ => rw [if_pos (show nI 0 = 0 from rfl), if_pos rfl, ih (i + 1) _ (by omega) (by omega)]
        | 1, _ => rw [if_neg (show ¬ nI 1 = 0 by decide), if_pos (show nI 1 = 1 by decide), if_neg (by decide), if_pos rfl, ih (i + 1) _ (by omega) (by omega)]
        | 2, _ => rw [if_neg (show ¬ nI 2 = 0 by decide), if_neg (show ¬ nI 2 = 1 by decide), if_neg (by decide), if_neg (by decide), ih (i + 1) _ (by omega) (by omega)]
        | w + 3, hw => omega
      · rw [if_neg z, if_neg z, Int32.add_zero, ih (i + 1) _ (by omega) (by omega)]
theorem m_tagged {N : Nat} (hN : 65536 ≤ N) {c : Nat} {tp : List Nat} {T : Nat → Rows} {V : Nat → Nat → Int32} {g : Nat → Int32} (hs : SQ c tp T V g) (x y : Int32) : ∃ r, F_X11_tagged N (V 0) (V 4 0) (T 4) x y = some r ∧ F_X12_tagged N g x y = some r := by
  obtain ⟨p, q, h, hI, hB, hq⟩ := hs
  have h200 := h.e.2
  unfold F_X11_tagged F_X12_tagged
  rcases n_tag x with ⟨a1, a2⟩ | ⟨a1, a2⟩
  · exact ⟨-1001, by rw [a1, bd_some, if_pos rfl], by rw [a2, bd_some, if_pos rfl]⟩
  rw [a1, a2, bd_some, bd_some, if_neg one_ne, if_neg one_ne]
  rcases in01 y 0 2 with ⟨b1, b2⟩ | ⟨b1, b2, b3⟩
  · refine ⟨-1001, ?_, by rw [b1, bd_some, if_pos rfl]⟩
    by_cases h2 : y < 0
    · rw [if_pos h2]
    · rw [if_neg h2, if_neg (fun z => b2 ⟨Int32.not_lt.mp h2, z⟩)]
  obtain ⟨w, hw, ew⟩ := nI_ofx (M := 2) (n := 2) rfl b2 b3
  subst ew
  have st := s_tagL (N := N) h.e (x := x) w (by omega) N 0 0 (Nat.zero_le _) (by omega)
  rw [nI_0, List.drop_zero] at st
  rw [b1, bd_some, if_neg one_ne, if_neg (nI_pos (by omega)), if_pos b3, st]
  refine ⟨_, ?_, rfl⟩
  unfold J_X11_tagged_54 F_X0_sum
  match w, hw with
  | 0, _ =>
    have := n_sum0 (N := N) (V 0) (V 4 0) x (T 4) 0
    rw [nI_0, Nat.zero_add] at this
    rw [if_pos (show nI 0 = 0 from rfl), n_hm hN (by omega) (fun r _ => ⟨_, tag_pick r⟩), bd_some, this]
  | 1, _ =>
    have := n_sumL (N := N) (vals := V 0) (now := V 4 0) (x := x) (rows := T 4) (by omega) 1 1 (Or.inl ⟨rfl, rfl⟩) N 0 0 (Nat.zero_le _) (by omega)
    rw [nI_0, List.drop_zero] at this
    have this' : L_X0_sum_6 N 200 (fun x4 => some x4) 1 1 x (V 0) (V 4 0) (T 4) N 0 0 = some (tgS 1 x (T 4) 0) := this
    rw [if_neg (show ¬ nI 1 = 0 by decide), if_pos (show nI 1 = 1 by decide), this', bd_some]
  | 2, _ =>
    have := n_sumL (N := N) (vals := V 0) (now := V 4 0) (x := x) (rows := T 4) (by omega) 2 3 (Or.inr ⟨rfl, rfl⟩) N 0 0 (Nat.zero_le _) (by omega)
    rw [nI_0, List.drop_zero] at this
    have this' : L_X0_sum_6 N 200 (fun x4 => some x4) 3 1 x (V 0) (V 4 0) (T 4) N 0 0 = some (tgS 2 x (T 4) 0) := this
    rw [if_neg (show ¬ nI 2 = 0 by decide), if_neg (show ¬ nI 2 = 1 by decide), this', bd_some]
  | w + 3, hw => omega
