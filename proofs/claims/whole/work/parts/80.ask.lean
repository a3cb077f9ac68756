/-! ===== ask, as a whole: both sides ===== -/
def ne1 (tp : List Nat) : Nat := if tp = [] then 0 else 1
/-- class and reference agree after c calls -/
def SQ (c : Nat) (tp : List Nat) (T : Nat → Rows) (V : Nat → Nat → Int32) (g : Nat → Int32) : Prop := ∃ (p : P) (q : Nat), RR T V g ∧ Iv p T V ∧ Bd p q T ∧ q + ne1 tp ≤ c
theorem ne1_nil : ne1 [] = 0 := rfl
theorem ne1_ne {tp : List Nat} (h : tp ≠ []) : ne1 tp = 1 := by unfold ne1; rw [if_neg h]
theorem ne1_le (tp : List Nat) : ne1 tp ≤ 1 := by unfold ne1; split <;> omega
theorem SQ.nil {c : Nat} {tp : List Nat} {T : Nat → Rows} {V : Nat → Nat → Int32} {g : Nat → Int32} (h : SQ c tp T V g) : SQ (c + 1) [] T V g := by
  obtain ⟨p, q, h1, h2, h3, h4⟩ := h
  exact ⟨p, q, h1, h2, h3, by rw [ne1_nil]; omega⟩
theorem SQ.up {c : Nat} {tp : List Nat} {T : Nat → Rows} {V : Nat → Nat → Int32} {g : Nat → Int32} (h : SQ c tp T V g) : SQ (c + 1) tp T V g := by
  obtain ⟨p, q, h1, h2, h3, h4⟩ := h
  exact ⟨p, q, h1, h2, h3, by omega⟩
theorem SQ.fed {c : Nat} {tp : List Nat} {T : Nat → Rows} {V : Nat → Nat → Int32} {g : Nat → Int32} (h : SQ c tp T V g) (tp' : List Nat) : SQ (c + 1) tp' T V g := by
  obtain ⟨p, q, h1, h2, h3, h4⟩ := h
  exact ⟨p, q, h1, h2, h3, by have := ne1_le tp'; omega⟩
theorem fk_has {c : Nat} {rows : Rows} {k : Int32} {e : Nat} (h : fk c rows k = some e) : ¬ fk c rows k = none := by rw [h]; exact fun z => by cases z
theorem m_ask {N : Nat} (hN : 65536 ≤ N) {c : Nat} (hc : c < 512) {tp : List Nat} {T : Nat → Rows} {V : Nat → Nat → Int32} {g : Nat → Int32} (hs : SQ c tp T V g) {tby : Nat → Int32} {tsz : Int32} {tape : Nat → Int32} {taped : Int32} (ht : TR tp tby tsz tape taped) (spot x : Int32) :
    ∃ (r : Int32) (T' : Nat → Rows) (V' : Nat → Nat → Int32) (g' : Nat → Int32) (tp' : List Nat) (tsz' taped' spot' : Int32), F_X11_ask N tby tsz (V 0) (V 4 0) (T 0) (T 1) (T 2) (T 3) (V 1) (V 2) (T 4) (T 5) (V 3) (V 4 1) (V 4 2) (V 4 3) (T 6) (T 7) x = some (r, tsz', T' 0, T' 1, T' 2, T' 3, V' 1, V' 2, T' 4, T' 5, V' 3, V' 4 1, V' 4 2, V' 4 3, T' 6, T' 7) ∧ F_X12_ask N g tape taped spot x = some (r, g', taped', spot') ∧ TR tp' tby tsz' tape taped' ∧ SQ (c + 1) tp' T' V' g' ∧ T' 8 = T 8 ∧ V' 0 = V 0 ∧ V' 4 0 = V 4 0 ∧ V' 4 4 = V 4 4 := by
  unfold F_X11_ask F_X12_ask
  rcases n_asker x with ⟨a1, a2⟩ | ⟨a1, a2, a, ha, rfl⟩
  · rw [a1, a2, bd_some, bd_some]
    exact ⟨-1001, T, V, g, tp, tsz, taped, spot, by rw [if_pos rfl], by rw [if_pos rfl], ht, hs.up, rfl, rfl, rfl, rfl⟩
  obtain ⟨k, spot', k1, k2, k3⟩ := take_both hN ht spot
  rw [a1, a2, bd_some, bd_some, if_neg (by decide), if_neg (by decide), k1, k2, bd_some, bd_some]
  rcases k3 with rfl | ⟨hk, hne⟩
  · refine ⟨-1002, T, V, g, [], 0, 0, spot', by rw [if_pos rfl], by rw [if_pos kc_0], ht.nil, hs.nil, rfl, rfl, rfl, rfl⟩
  obtain ⟨p, q, h, hI, hB, hq⟩ := hs
  rw [ne1_ne hne] at hq
  have hq5 : q ≤ 510 := by omega
  have bu : p.u < 100000 := by have := hB.1; omega
  have ba : p.a < 100000 := by have := hB.2.1; omega
  have b6 : (T 6).length < 256 := by have := hB.2.2.1; omega
  have b7 : (T 7).length < 256 := by have := hB.2.2.2; omega
  obtain ⟨g1, u1, r1⟩ := s_uses hN h hI.sk hk ha
  have I1 := us_iv hI hk a
  have v4e : usV V k a 4 = upd (V 4) 1 (V 4 1 + 1) := rfl
  have v40 : usV V k a 4 0 = V 4 0 := by rw [v4e, upd_ne (by decide)]
  have v41 : usV V k a 4 1 = V 4 1 + 1 := by rw [v4e, upd_at]
  have v42 : usV V k a 4 2 = V 4 2 := by rw [v4e, upd_ne (by decide)]
  have v43 : usV V k a 4 3 = V 4 3 := by rw [v4e, upd_ne (by decide)]
  have v44 : usV V k a 4 4 = V 4 4 := by rw [v4e, upd_ne (by decide)]
  have n3 : F_X7_add N (V 3) k = some (usV V k a 3) := n_skadd hN (Or.inr hk)
  obtain ⟨T2, V2, g2, b1, r2, I2, t2, w2, cs⟩ := s_begin hN r1 I1 hk (V 4 1) (V 4 2) (nI a) (V 3) n3
  have x0 : V2 0 = V 0 := w2 0 (by decide)
  have x2 : V2 2 = tallyN (V 2) (a * 4 + 0) := w2 2 (by decide)
  have x3 : V2 3 = usV V k a 3 := w2 3 (by decide)
  have x4 : V2 4 = usV V k a 4 := w2 4 (by decide)
  have y1 : T2 1 = T 1 := t2 1 (by decide) (by decide) (by decide) (by decide)
  have y3 : T2 3 = keepR 60 (T 3) ++ [[k]] := t2 3 (by decide) (by decide) (by decide) (by decide)
  have y6 : T2 6 = T 6 := t2 6 (by decide) (by decide) (by decide) (by decide)
  have y7 : T2 7 = T 7 := t2 7 (by decide) (by decide) (by decide) (by decide)
  have y8 : T2 8 = T 8 := t2 8 (by decide) (by decide) (by decide) (by decide)
  have b1' : F_X6_beginUse N (V 0) (V 4 0) (T 0) (T 2) (tallyN (V 1) 0) (T 4) (T 5) (V 3) (V 4 1) (V 4 2) k = some (T2 0, T2 2, V2 1, T2 4, T2 5, usV V k a 3, V 4 1 + 1, V 4 2 + 1) := by
    have z := b1
    rw [v40] at z
    exact z
  have ents200 := r2.e.2
  have colds21 := r2.c.2
  -- the end of a use behind what the ask did
  have fin : ∀ (r : Int32) (T3 : Nat → Rows) (V3 : Nat → Nat → Int32) (g3 : Nat → Int32) (p3 : P), RR T3 V3 g3 → Iv p3 T3 V3 → p3.u = p.u → p3.a ≤ p.a + 1 → (T3 6).length ≤ (T 6).length + 1 → (T3 7).length ≤ (T 7).length + 1 → T3 8 = T 8 → V3 0 = V 0 → V3 3 = usV V k a 3 → (∀ j, j ≠ 3 → V3 4 j = usV V k a 4 j) → F_X12_asks N g1 (kc k) (nI a) = some (r, g3) →
      ∃ (r' : Int32) (T' : Nat → Rows) (V' : Nat → Nat → Int32) (g' : Nat → Int32) (tp' : List Nat) (tsz' taped' spot'' : Int32), J_X11_ask_107 N r tby 0 (V 0) (V 4 0) (T3 0) (T3 1) (T3 2) (T3 3) (V3 1) (V3 2) (T3 4) (T3 5) (usV V k a 3) (V 4 1 + 1) (V 4 2 + 1) (V3 4 3) (T3 6) (T3 7) = some (r', tsz', T' 0, T' 1, T' 2, T' 3, V' 1, V' 2, T' 4, T' 5, V' 3, V' 4 1, V' 4 2, V' 4 3, T' 6, T' 7) ∧ bd (F_X12_uses N g (kc k) (nI a)) (fun o_3 => bd (F_X12_asks N o_3 (kc k) (nI a)) (fun o_4 => bd (F_X12_halves N o_4.2) (fun o_5 => some (o_4.1, o_5, (0 : Int32), spot')))) = some (r', g', taped', spot'') ∧ TR tp' tby tsz' tape taped' ∧ SQ (c + 1) tp' T' V' g' ∧ T' 8 = T 8 ∧ V' 0 = V 0 ∧ V' 4 0 = V 4 0 ∧ V' 4 4 = V 4 4 := by
    intro r T3 V3 g3 p3 r3 I3 hu ha3 l6 l7 z8 z0 z3 z4 ask
    obtain ⟨T', V', g', e1, e2, e3, e4, e5, e6, e7⟩ := s_halves hN r3 I3 (by omega)
    have z40 : V3 4 0 = V 4 0 := by rw [z4 0 (by decide), v40]
    have z41 : V3 4 1 = V 4 1 + 1 := by rw [z4 1 (by decide), v41]
    have z42 : V3 4 2 = V 4 2 := by rw [z4 2 (by decide), v42]
    rw [z0, z40, z42, z3] at e1
    have o1 : T' 1 = T3 1 := e5 1 (by decide) (by decide)
    have o2 : T' 2 = T3 2 := e5 2 (by decide) (by decide)
    have o3 : T' 3 = T3 3 := e5 3 (by decide) (by decide)
    have o5 : T' 5 = T3 5 := e5 5 (by decide) (by decide)
    have o6 : T' 6 = T3 6 := e5 6 (by decide) (by decide)
    have o7 : T' 7 = T3 7 := e5 7 (by decide) (by decide)
    have o8 : T' 8 = T3 8 := e5 8 (by decide) (by decide)
    have s2 : V' 2 = V3 2 := e6 2 (by decide) (by decide) (by decide)
    have s0 : V' 0 = V3 0 := e6 0 (by decide) (by decide) (by decide)
    have s41 : V' 4 1 = V 4 1 + 1 := by rw [e7 1 (by decide) (by decide), z41]
    have s43 : V' 4 3 = V3 4 3 := e7 3 (by decide) (by decide)
    refine ⟨r, T', V', g', [], 0, 0, spot', ?_, ?_, ht.nil, ⟨_, q + 2, e3, e4, ?_, by rw [ne1_nil]; omega⟩, by rw [o8, z8], by rw [s0, z0], by rw [e7 0 (by decide) (by decide), z40], by rw [e7 4 (by decide) (by decide), z4 4 (by decide), v44]⟩
    · unfold J_X11_ask_107
      rw [e1, bd_some, o1, o2, o3, o5, o6, o7, s2, s41, s43]
    · rw [u1, bd_some, ask, bd_some, e2, bd_some]
    · have := hB
      refine ⟨?_, ?_, ?_, ?_⟩
      · show 2 * (p3.u + 1) ≤ q + 2
        have := hB.1; omega
      · show 2 * p3.a ≤ q + 2
        have := hB.2.1; omega
      · rw [o6]; have := hB.2.2.1; omega
      · rw [o7]; have := hB.2.2.2; omega
  have wu0 : ∀ a', (p.wa a').u = p.u := fun _ => rfl
  have nu := n_noteUse (T 3) (V 1) (V 2) ha k
  rw [if_neg (kc_ne0 hk).1, if_neg (kc_ne0 hk).2, nu, bd_some, b1', bd_some]
  dsimp only
  rw [n_has (by omega), bd_some]
  rcases cs with ⟨e, c1, c2⟩ | ⟨c1, i, c2, c3⟩ | ⟨c1, c2, c3⟩
  · obtain ⟨r, T3, V3, g3, d1, d2, d3, d4, d5, d6, d7⟩ := s_hit hN r2 I2 (by rw [y6]; exact b6) c1 ha
    rw [d2, bd_some] at c2
    have x40 : V2 4 0 = V 4 0 := by rw [x4, v40]
    have x41 : V2 4 1 = V 4 1 + 1 := by rw [x4, v41]
    rw [x0, x40, x41, y1, y6, x2] at d1
    have z7 : V3 3 = usV V k a 3 := by rw [d7 3 (by decide) (by decide), x3]
    have z4 : V3 4 = usV V k a 4 := by rw [d7 4 (by decide) (by decide), x4]
    have t35 : T3 5 = T2 5 := d6 5 (by decide) (by decide) (by decide) (by decide)
    have t32 : T3 2 = T2 2 := d6 2 (by decide) (by decide) (by decide) (by decide)
    have t33 : T3 3 = keepR 60 (T 3) ++ [[k]] := by rw [d6 3 (by decide) (by decide) (by decide) (by decide), y3]
    have t37 : T3 7 = T 7 := by rw [d6 7 (by decide) (by decide) (by decide) (by decide), y7]
    have t38 : T3 8 = T 8 := by rw [d6 8 (by decide) (by decide) (by decide) (by decide), y8]
    have f := fin r T3 V3 g3 p d3 d4 rfl (by omega) (by rw [y6] at d5; exact d5) (by rw [t37]; omega) t38 (by rw [d7 0 (by decide) (by decide), x0]) z7 (fun j _ => by rw [z4]) c2
    rw [if_neg (fk_has c1), if_neg (by decide), d1, bd_some]
    rw [t32, t33, t35, t37] at f
    have e43 : V3 4 3 = V 4 3 := by rw [z4, v43]
    rw [e43] at f
    exact f
  · obtain ⟨r, T3, V3, g3, a', d1, d2, d3, d4, d5, d6, d7, d8⟩ := s_warm hN r2 I2 ba hk c2 (fk_none c1)
    rw [d2, bd_some] at c3
    have x40 : V2 4 0 = V 4 0 := by rw [x4, v40]
    have x41 : V2 4 1 = V 4 1 + 1 := by rw [x4, v41]
    have x43 : V2 4 3 = V 4 3 := by rw [x4, v43]
    rw [x0, x40, x41, x43, x3] at d1
    have t31 : T3 1 = T 1 := by rw [d6 1 (by decide) (by decide) (by decide) (by decide), y1]
    have t33 : T3 3 = keepR 60 (T 3) ++ [[k]] := by rw [d6 3 (by decide) (by decide) (by decide) (by decide), y3]
    have t36 : T3 6 = T 6 := by rw [d6 6 (by decide) (by decide) (by decide) (by decide), y6]
    have t37 : T3 7 = T 7 := by rw [d6 7 (by decide) (by decide) (by decide) (by decide), y7]
    have t38 : T3 8 = T 8 := by rw [d6 8 (by decide) (by decide) (by decide) (by decide), y8]
    have z7 : V3 3 = usV V k a 3 := by rw [d7 3 (by decide) (by decide), x3]
    have z2 : V3 2 = tallyN (V 2) (a * 4 + 0) := by rw [d7 2 (by decide) (by decide), x2]
    have f := fin r T3 V3 g3 _ d3 d4 rfl d5 (by rw [t36]; omega) (by rw [t37]; omega) t38 (by rw [d7 0 (by decide) (by decide), x0]) z7 (fun j hj => by rw [d8 j hj, x4]) c3
    rw [if_pos c1, if_pos rfl, n_has (by omega), bd_some, if_neg (fk_has c2), if_neg (by decide), d1, bd_some]
    rw [t31, t33, t36, t37, z2] at f
    exact f
  · obtain ⟨T3, V3, g3, d1, d2, d3, d4, d5, d6, d7, d8⟩ := s_wait hN r2 I2 (by rw [y6]; exact b6) (by rw [y7]; exact b7) hk ha
    rw [d2] at c3
    have x40 : V2 4 0 = V 4 0 := by rw [x4, v40]
    rw [x0, x40, y1, y6, y7] at d1
    have t32 : T3 2 = T2 2 := d7 2 (by decide) (by decide) (by decide) (by decide)
    have t33 : T3 3 = keepR 60 (T 3) ++ [[k]] := by rw [d7 3 (by decide) (by decide) (by decide) (by decide), y3]
    have t34 : T3 4 = T2 4 := d7 4 (by decide) (by decide) (by decide) (by decide)
    have t35 : T3 5 = T2 5 := d7 5 (by decide) (by decide) (by decide) (by decide)
    have t38 : T3 8 = T 8 := by rw [d7 8 (by decide) (by decide) (by decide) (by decide), y8]
    have z7 : V3 3 = usV V k a 3 := by rw [d8 3 (by decide), x3]
    have z2 : V3 2 = tallyN (V 2) (a * 4 + 0) := by rw [d8 2 (by decide), x2]
    have z4 : V3 4 = usV V k a 4 := by rw [d8 4 (by decide), x4]
    have f := fin (-1006) T3 V3 g3 p d3 d4 rfl (by omega) (by rw [y6] at d5; exact d5) (by rw [y7] at d6; exact d6) t38 (by rw [d8 0 (by decide), x0]) z7 (fun j _ => by rw [z4]) c3
    rw [if_pos c1, if_pos rfl, n_has (by omega), bd_some, if_pos c2, if_pos rfl, d1, bd_some]
    have e43 : V3 4 3 = V 4 3 := by rw [z4, v43]
    rw [t32, t33, t34, t35, z2, e43] at f
    exact f
