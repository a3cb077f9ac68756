/-! ===== notes in the book, sums, what is written: both sides ===== -/
theorem ldn {β : Type} {g : Nat → Int32} {n : Nat} {i : Int32} {b : Int32 → Option β} {k : Nat} (hi : i = nI k) (hk : k < n) (hn : n < 2 ^ 31 := by decide) : ld g n i b = b (g k) := by
  subst hi
  rw [ld_t (vp_in_nI hk hn), nI_clamp (by omega)]
theorem ston {β : Type} {g : Nat → Int32} {n : Nat} {i x : Int32} {b : (Nat → Int32) → Option β} {k : Nat} (hi : i = nI k) (hk : k < n) (hn : n < 2 ^ 31 := by decide) : sto g n i x b = b (upd g k x) := by
  subst hi
  rw [sto_t (vp_in_nI hk hn), nI_clamp (by omega)]
theorem gl {β : Type} {g : Nat → Int32} {b : Int32 → Option β} (i : Int32) (k : Nat) (hi : i = nI k) (hk : k < 8787) : ld g 8787 i b = b (g k) := ldn hi hk (by decide)
theorem gs {β : Type} {g : Nat → Int32} {x : Int32} {b : (Nat → Int32) → Option β} (i : Int32) (k : Nat) (hi : i = nI k) (hk : k < 8787) : sto g 8787 i x b = b (upd g k x) := ston hi hk (by decide)
theorem ix3 (a e b c : Nat) : nI a + nI e * nI b + nI c = nI (a + (e * b + c)) := by rw [pk_mul, nI_add, nI_add, Nat.add_assoc]
/-- the number h of a key that the class holds; 0 where there is none -/
noncomputable def hn (k : Int32) : Int32 := @dite _ (∃ ks, Lk ks ∧ ks ≠ [] ∧ k = pk ks) (Classical.propDecidable _) (fun h => hsh (Classical.choose h)) (fun _ => 0)
theorem hn_eq {ks : List Nat} (h : Lk ks) (hne : ks ≠ []) : hn (pk ks) = hsh ks := by
  have h1 : ∃ qs, Lk qs ∧ qs ≠ [] ∧ pk ks = pk qs := ⟨ks, h, hne, rfl⟩
  unfold hn
  rw [dif_pos h1]
  have h2 := Classical.choose_spec h1
  rw [← (pk_inj h h2.1).mp h2.2.2]
theorem hn_0 : hn 0 = 0 := by
  unfold hn
  rw [dif_neg]
  rintro ⟨ks, h1, h2, h3⟩
  exact (KR.ne0 ⟨ks, h1, h2, rfl, rfl⟩).1 h3.symm
theorem kc_0 : kc 0 = 0 := by
  unfold kc
  rw [dif_neg]
  rintro ⟨q, h⟩
  exact h.ne0.1 rfl
/-- a key, or none -/
def Vk0 (k : Int32) : Prop := k = 0 ∨ Vk k
theorem n_number {N : Nat} (hN : 65536 ≤ N) {k : Int32} (h : Vk0 k) : F_X1_number N k = some (hn k) := by
  rcases h with rfl | ⟨q, ks, h1, h2, rfl, rfl⟩
  · rw [hn_0]; unfold F_X1_number; rw [if_pos rfl]
  · rw [hn_eq h1 h2]; exact k_number hN h1 h2
theorem n_hash {N : Nat} (hN : 65536 ≤ N) {k : Int32} (h : Vk k) : F_X12_hashOf N (kc k) = some (hn k) := by
  obtain ⟨q, ks, h1, h2, rfl, rfl⟩ := h
  rw [hn_eq h1 h2, kc_eq ⟨ks, h1, h2, rfl, rfl⟩]
  exact k_hash hN h1
theorem tpush3 (m : Nat) (rows : Rows) (a b c : Int32) : (tpush m 3 rows a b c).2 = keepR m rows ++ [[a, b, c]] := rfl
theorem tpush2 (m : Nat) (rows : Rows) (a b c : Int32) : (tpush m 2 rows a b c).2 = keepR m rows ++ [[a, b]] := rfl
theorem tpush1 (m : Nat) (rows : Rows) (a b c : Int32) : (tpush m 1 rows a b c).2 = keepR m rows ++ [[a]] := rfl
theorem tpush9 (m : Nat) (rows : Rows) (a b c : Int32) : (tpush m 9 rows a b c).2 = keepR m rows ++ [[a, b, c, 0, 0, 0, 0, 0, 0]] := rfl
noncomputable def pushK (book : Rows) (kind now k : Int32) : Rows := keepR 40 book ++ [[kind, now, hn k]]
def tallyN (s : Nat → Int32) (j : Nat) : Nat → Int32 := upd s j (s j + 1)
theorem n_tally (s : Nat → Int32) {x : Int32} {j : Nat} (hx : x = nI j) (hj : j < 14) : F_X2_tally s x = some (tallyN s j) := by
  subst hx
  unfold F_X2_tally
  rw [if_neg (nI_pos (by omega)), if_neg (nI_ge (b := 14) hj (by omega)), ldn rfl hj, ston rfl hj]
  rfl
theorem n_tally_m (s : Nat → Int32) : F_X2_tally s (-1) = some s := by
  unfold F_X2_tally
  rw [if_pos (by decide)]
/-- the sums behind a note -/
def tlk (s : Nat → Int32) (kind : Nat) : Nat → Int32 := match kind with
  | 0 => tallyN s 1
  | 2 => tallyN s 3
  | 3 => tallyN s 2
  | 6 => tallyN s 5
  | 7 => tallyN s 7
  | 10 => tallyN s 10
  | 11 => tallyN s 11
  | 12 => tallyN s 12
  | 13 => tallyN s 13
  | _ => s
theorem n_note {N : Nat} (hN : 65536 ≤ N) {k : Int32} (h : Vk0 k) (now : Int32) (book : Rows) (s : Nat → Int32) (kind : Nat) (hk : kind < 14) : F_X2_note N now book s (nI kind) k = some (pushK book (nI kind) now k, tlk s kind) := by
  unfold F_X2_note F_X5_now
  rw [bd_t rfl, n_number hN h, bd_t rfl, lt_b, tpush3, if_neg (nI_pos (by omega)), if_neg (show ¬ (14 : Int32) ≤ nI kind from nI_ge (b := 14) hk (by omega)), ldn (i := nI kind) (n := 14) (k := kind) rfl hk]
  have e : ∀ j, j < 14 → (zSUM_OF j = -1 ∧ tlk s j = s) ∨ ∃ q, q < 14 ∧ zSUM_OF j = nI q ∧ tlk s j = tallyN s q := by
    intro j hj
    match j, hj with
    | 0, _ => exact Or.inr ⟨1, by decide, rfl, rfl⟩
    | 1, _ => exact Or.inl ⟨rfl, rfl⟩
    | 2, _ => exact Or.inr ⟨3, by decide, rfl, rfl⟩
    | 3, _ => exact Or.inr ⟨2, by decide, rfl, rfl⟩
    | 4, _ => exact Or.inl ⟨rfl, rfl⟩
    | 5, _ => exact Or.inl ⟨rfl, rfl⟩
    | 6, _ => exact Or.inr ⟨5, by decide, rfl, rfl⟩
    | 7, _ => exact Or.inr ⟨7, by decide, rfl, rfl⟩
    | 8, _ => exact Or.inl ⟨rfl, rfl⟩
    | 9, _ => exact Or.inl ⟨rfl, rfl⟩
    | 10, _ => exact Or.inr ⟨10, by decide, rfl, rfl⟩
    | 11, _ => exact Or.inr ⟨11, by decide, rfl, rfl⟩
    | 12, _ => exact Or.inr ⟨12, by decide, rfl, rfl⟩
    | 13, _ => exact Or.inr ⟨13, by decide, rfl, rfl⟩
    | j + 14, hj => omega
  rcases e kind hk with ⟨h1, h2⟩ | ⟨q, h0, h1, h2⟩
  · rw [h1, n_tally_m, bd_t rfl, h2]; rfl
  · rw [h1, n_tally s rfl h0, bd_t rfl, h2]; rfl
/-- the reference: one more in the book -/
theorem s_happens {N : Nat} (hN : 65536 ≤ N) {T : Nat → Rows} {V : Nat → Nat → Int32} {g : Nat → Int32} (h : RR T V g) {k : Int32} (hk : Vk0 k) (kind : Int32) : ∃ g', F_X12_happens N g kind (kc k) = some g' ∧ RR (va_up T 0 (pushK (T 0) kind (V 4 0) k)) V g' := by
  obtain ⟨g1, h1, h2, h3, h4⟩ := g_slot hN (most := 40) h.1.1 (by decide) (by decide) h.1.2 (by decide) (by decide) (Or.inl (by decide))
  have hl := keepR_len h.1.2 (by decide)
  have h8 : g1 8 = V 4 0 := by rw [h4 8 (by decide) (Or.inl (by decide))]; exact h.2.2.2.2.2.2.2.2.1.2.1
  have fin : ∀ x, J_X12_happens_54 N (nI (8667 + (keepR 40 (T 0)).length * 3) + 2) x (upd (upd g1 (8667 + (keepR 40 (T 0)).length * 3) kind) (8667 + (keepR 40 (T 0)).length * 3 + 1) (V 4 0)) = some (upd (upd (upd g1 (8667 + (keepR 40 (T 0)).length * 3) kind) (8667 + (keepR 40 (T 0)).length * 3 + 1) (V 4 0)) (8667 + (keepR 40 (T 0)).length * 3 + 2) x) := by
    intro x
    unfold J_X12_happens_54
    rw [gs (nI (8667 + (keepR 40 (T 0)).length * 3) + 2) (8667 + (keepR 40 (T 0)).length * 3 + 2) (nI_add _ 2) (by omega)]
  have main : F_X12_happens N g kind (kc k) = some (upd (upd (upd g1 (8667 + (keepR 40 (T 0)).length * 3) kind) (8667 + (keepR 40 (T 0)).length * 3 + 1) (V 4 0)) (8667 + (keepR 40 (T 0)).length * 3 + 2) (hn k)) := by
    unfold F_X12_happens
    have h1' : F_X12_slot N g 19 8667 3 40 = some (nI (8667 + (keepR 40 (T 0)).length * 3), g1) := h1
    rw [h1', bd_t rfl]
    dsimp only
    rw [gs (nI (8667 + (keepR 40 (T 0)).length * 3)) (8667 + (keepR 40 (T 0)).length * 3) rfl (by omega), gl 8 8 rfl (by decide), upd_ne (by omega), h8, gs (nI (8667 + (keepR 40 (T 0)).length * 3) + 1) (8667 + (keepR 40 (T 0)).length * 3 + 1) (nI_1 _) (by omega)]
    rcases hk with rfl | hv
    · rw [kc_0, if_pos rfl, hn_0]; exact fin 0
    · rw [if_neg hv.kr.ne0.2, n_hash hN hv, bd_t rfl]; exact fin _
  refine ⟨_, main, h.uRK ⟨?_, ?_⟩ (fun p hp hq => ?_)⟩
  · refine GT.pushed (g' := g1) h2 h3 ?_ (fun p h5 h6 => ?_) (fun j hj => ?_)
    · rw [upd_ne (by omega), upd_ne (by omega), upd_ne (by omega)]
    · rw [upd_ne (by omega), upd_ne (by omega), upd_ne (by omega)]
    · match j, hj with
      | 0, _ => rw [upd_ne (by omega), upd_ne (by omega), show 8667 + ((keepR 40 (T 0)).length * 3 + 0) = 8667 + (keepR 40 (T 0)).length * 3 by omega, upd_at]; rfl
      | 1, _ => rw [upd_ne (by omega), show 8667 + ((keepR 40 (T 0)).length * 3 + 1) = 8667 + (keepR 40 (T 0)).length * 3 + 1 by omega, upd_at]; rfl
      | 2, _ => rw [show 8667 + ((keepR 40 (T 0)).length * 3 + 2) = 8667 + (keepR 40 (T 0)).length * 3 + 2 by omega, upd_at]; rfl
      | j + 3, hj => omega
  · unfold pushK; rw [List.length_append, List.length_singleton]; omega
  · rw [upd_ne (by omega), upd_ne (by omega), upd_ne (by omega)]
    exact h4 p (by omega) (by omega)
/-- the reference: a sum grows -/
theorem s_led {T : Nat → Rows} {V : Nat → Nat → Int32} {g : Nat → Int32} (h : RR T V g) {j : Nat} (hj : j < 14) : RR T (va_up V 1 (tallyN (V 1) j)) (upd g (20 + j) (g (20 + j) + 1)) := by
  refine h.uRD (fun i hi => ?_) (fun p hp hq => upd_ne (by omega))
  have e := h.2.2.2.2.2.2.2.2.2.1
  unfold tallyN
  by_cases q : i = j
  · subst q; rw [upd_at, upd_at, e i hi]
  · rw [upd_ne (by omega), upd_ne q, e i hi]
theorem keepR_map {m : Nat} {rows : Rows} (f : List Int32 → List Int32) : keepR m (rows.map f) = (keepR m rows).map f := by
  unfold keepR
  rw [List.length_map]
  split
  · rfl
  · rw [List.map_drop]
noncomputable def pushW (written : Rows) (k v : Int32) : Rows := keepR 40 written ++ [[k, v]]
theorem n_noteWritten {N : Nat} (hN : 65536 ≤ N) {k : Int32} (h : Vk0 k) (now : Int32) (book written : Rows) (s : Nat → Int32) (v : Int32) : F_X2_noteWritten N now book written s k v = some (pushK book 11 now k, pushW written k v, tallyN s 11) := by
  unfold F_X2_noteWritten
  have e := n_note hN h now book s 11 (by decide)
  have e' : F_X2_note N now book s 11 k = some (pushK book 11 now k, tallyN s 11) := e
  rw [lt_b, tpush2, e', bd_t rfl]
  rfl
theorem s_writes {N : Nat} (hN : 65536 ≤ N) {T : Nat → Rows} {V : Nat → Nat → Int32} {g : Nat → Int32} (h : RR T V g) {k : Int32} (hk : Vk k) (v : Int32) : ∃ g', F_X12_writes N g (kc k) v = some g' ∧ RR (va_up (va_up T 2 (pushW (T 2) k v)) 0 (pushK (T 0) 11 (V 4 0) k)) (va_up V 1 (tallyN (V 1) 11)) g' := by
  obtain ⟨g1, h1, h2, h3, h4⟩ := g_slot hN (most := 40) h.2.2.1.1 (by decide) (by decide) (by rw [List.length_map]; exact h.2.2.1.2) (by decide) (by decide) (Or.inl (by decide))
  have hl := keepR_len h.2.2.1.2 (by decide)
  rw [keepR_map, List.length_map] at h1 h2 h3
  have r1 : RR (va_up T 2 (pushW (T 2) k v)) V (upd (upd g1 (8527 + (keepR 40 (T 2)).length * 2) (kc k)) (8527 + (keepR 40 (T 2)).length * 2 + 1) v) := by
    refine h.uRW ⟨?_, ?_⟩ (fun p hp hq => ?_)
    · unfold pushW
      rw [List.map_append]
      refine GT.pushed (g' := g1) (by rw [List.length_map]; exact h2) (by rw [List.length_map]; exact h3) ?_ (fun p h5 h6 => ?_) (fun j hj => ?_)
      · rw [upd_ne (by omega), upd_ne (by omega)]
      · rw [List.length_map] at h6; rw [upd_ne (by omega), upd_ne (by omega)]
      · rw [List.length_map]
        match j, hj with
        | 0, _ => rw [upd_ne (by omega), show 8527 + ((keepR 40 (T 2)).length * 2 + 0) = 8527 + (keepR 40 (T 2)).length * 2 by omega, upd_at]; rfl
        | 1, _ => rw [show 8527 + ((keepR 40 (T 2)).length * 2 + 1) = 8527 + (keepR 40 (T 2)).length * 2 + 1 by omega, upd_at]; rfl
        | j + 2, hj => omega
    · unfold pushW; rw [List.length_append, List.length_singleton]; omega
    · rw [upd_ne (by omega), upd_ne (by omega)]
      exact h4 p (by omega) (by omega)
  have r2 := s_led r1 (j := 11) (by decide)
  obtain ⟨g', h5, h6⟩ := s_happens hN r2 (Or.inr hk) 11
  refine ⟨g', ?_, h6⟩
  unfold F_X12_writes
  have h1' : F_X12_slot N g 17 8527 2 40 = some (nI (8527 + (keepR 40 (T 2)).length * 2), g1) := h1
  rw [h1', bd_t rfl]
  dsimp only
  rw [gs (nI (8527 + (keepR 40 (T 2)).length * 2)) (8527 + (keepR 40 (T 2)).length * 2) rfl (by omega), gs (nI (8527 + (keepR 40 (T 2)).length * 2) + 1) (8527 + (keepR 40 (T 2)).length * 2 + 1) (nI_1 _) (by omega), gl 31 31 rfl (by decide), gs 31 31 rfl (by decide)]
  have h5' : F_X12_happens N (upd (upd (upd g1 (8527 + (keepR 40 (T 2)).length * 2) (kc k)) (8527 + (keepR 40 (T 2)).length * 2 + 1) v) 31 (upd (upd g1 (8527 + (keepR 40 (T 2)).length * 2) (kc k)) (8527 + (keepR 40 (T 2)).length * 2 + 1) v 31 + 1)) 11 (kc k) = some g' := h5
  rw [h5', bd_t rfl]
