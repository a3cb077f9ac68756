/-! ===== one delivery: both sides ===== -/
theorem box_lt {boxes : Rows} (hB : iB boxes) (h12 : ∀ a, a < 16 → (bx boxes a).length ≤ 12) {a : Nat} (ha : a < 16) (h : (bx boxes a).length < 12) : boxes.length < 192 := by
  have ht := bx_total hB
  have s0 := h12 0 (by decide); have s1 := h12 1 (by decide); have s2 := h12 2 (by decide); have s3 := h12 3 (by decide)
  have s4 := h12 4 (by decide); have s5 := h12 5 (by decide); have s6 := h12 6 (by decide); have s7 := h12 7 (by decide)
  have s8 := h12 8 (by decide); have s9 := h12 9 (by decide); have s10 := h12 10 (by decide); have s11 := h12 11 (by decide)
  have s12 := h12 12 (by decide); have s13 := h12 13 (by decide); have s14 := h12 14 (by decide); have s15 := h12 15 (by decide)
  match a, ha, h with
  | 0, _, h => omega
  | 1, _, h => omega
  | 2, _, h => omega
  | 3, _, h => omega
  | 4, _, h => omega
  | 5, _, h => omega
  | 6, _, h => omega
  | 7, _, h => omega
  | 8, _, h => omega
  | 9, _, h => omega
  | 10, _, h => omega
  | 11, _, h => omega
  | 12, _, h => omega
  | 13, _, h => omega
  | 14, _, h => omega
  | 15, _, h => omega
  | a + 16, ha, h => omega
theorem box_le {boxes : Rows} (hB : iB boxes) (h12 : ∀ a, a < 16 → (bx boxes a).length ≤ 12) : boxes.length ≤ 192 := by
  have ht := bx_total hB
  have s0 := h12 0 (by decide); have s1 := h12 1 (by decide); have s2 := h12 2 (by decide); have s3 := h12 3 (by decide)
  have s4 := h12 4 (by decide); have s5 := h12 5 (by decide); have s6 := h12 6 (by decide); have s7 := h12 7 (by decide)
  have s8 := h12 8 (by decide); have s9 := h12 9 (by decide); have s10 := h12 10 (by decide); have s11 := h12 11 (by decide)
  have s12 := h12 12 (by decide); have s13 := h12 13 (by decide); have s14 := h12 14 (by decide); have s15 := h12 15 (by decide)
  omega
def dS (boxes : Rows) (a : Nat) (s : Nat → Int32) : Nat → Int32 := tallyN (if (bx boxes a).length < 12 then s else tallyN s 9) 8
def dO (a : Nat) (s : Nat → Int32) : Nat → Int32 := tallyN s (a * 4 + 2)
theorem n_tallyOf (s : Nat → Int32) {a c : Nat} (ha : a < 16) (y : Int32) (hy : y = nI c) (hc : c < 4) : F_X2_tallyOf s (nI a) y = some (tallyN s (a * 4 + c)) := by
  subst hy
  unfold F_X2_tallyOf
  have e : nI a * 4 + nI c = nI (a * 4 + c) := by
    have : nI a * 4 = nI (a * 4) := pk_mul a 4
    rw [this, nI_add]
  rw [lt_b, e, if_neg (nI_pos (by omega)), if_neg (nI_ge (by omega) (by omega)), ldn (i := nI (a * 4 + c)) (n := 64) (k := a * 4 + c) rfl (by omega), ston (i := nI (a * 4 + c)) (n := 64) (k := a * 4 + c) rfl (by omega)]
  rfl
theorem n_deliver {boxes : Rows} (hB : iB boxes) (h12 : ∀ a, a < 16 → (bx boxes a).length ≤ 12) {a : Nat} (ha : a < 16) (sums asum : Nat → Int32) (k v : Int32) : F_X3_deliver sums asum boxes (nI a) k v = some (dS boxes a sums, dO a asum, dB boxes a k v) := by
  have hcnt : thowMany boxes 0 (nI a) = nI (bx boxes a).length := by
    rw [howMany_eq boxes 0 0 rfl (by decide), List.countP_eq_length_filter]
    rfl
  have h12a := h12 a ha
  have hle := box_le hB h12
  have j35 : ∀ (s : Nat → Int32) (bs : Rows), bs.length < 192 → J_X3_deliver_35 (nI a) k v s asum bs = some (tallyN s 8, dO a asum, bs ++ [[nI a, k, v]]) := by
    intro s bs hl
    unfold J_X3_deliver_35 F_X2_noteDelivered
    rw [lt_b, tpush3, n_tally s (x := 8) (j := 8) rfl (by decide), bd_some, n_tallyOf asum ha 2 rfl (by decide), bd_some, bd_some]
    unfold keepR
    rw [if_pos hl]
    rfl
  unfold F_X3_deliver dS dB
  rw [lt_b, hcnt]
  by_cases h1 : (bx boxes a).length < 12
  · rw [if_pos (show nI (bx boxes a).length < 12 from nI_lt (b := 12) h1 (by omega)), if_pos h1, if_pos h1]
    exact j35 sums boxes (box_lt hB h12 ha h1)
  · obtain ⟨i, hi⟩ := find_some (boxes := boxes) (a := a) (by omega)
    have hil : i < boxes.length := by
      rw [List.findIdx?_eq_some_iff_getElem] at hi
      exact hi.1
    have hfd : F_X3_firstDelivery boxes (nI a) = some (nI i) := by
      unfold F_X3_firstDelivery
      rw [lt_b, tfind_oI boxes 0 0 rfl (by decide)]
      have : fk 0 boxes (nI a) = some i := hi
      rw [this]
      rfl
    have hel : (boxes.eraseIdx i).length < 192 := by rw [List.length_eraseIdx_of_lt hil]; omega
    rw [if_neg (show ¬ nI (bx boxes a).length < 12 from nI_nlt (b := 12) (by omega) (by omega)), if_neg h1, if_neg h1, hfd, bd_some, lt_b, tremove_nI (by omega), n_tally sums (x := 9) (j := 9) rfl (by decide), bd_some, hi]
    exact j35 (tallyN sums 9) (boxes.eraseIdx i) hel
theorem s_of {T : Nat → Rows} {V : Nat → Nat → Int32} {g : Nat → Int32} (h : RR T V g) {j : Nat} (hj : j < 64) : RR T (va_up V 2 (tallyN (V 2) j)) (upd g (8403 + j) (g (8403 + j) + 1)) := by
  refine h.uRO (fun i hi => ?_) (fun p hp hq => upd_ne (by omega))
  have e := h.2.2.2.2.2.2.2.2.2.2.1
  unfold tallyN
  by_cases q : i = j
  · subst q; rw [upd_at, upd_at, e i hi]
  · rw [upd_ne (by omega), upd_ne q, e i hi]
/-- the reference: a delivery comes into a box, behind its slot -/
theorem s_boxed {N : Nat} (hN : 65536 ≤ N) {T : Nat → Rows} {V : Nat → Nat → Int32} {g : Nat → Int32} (h : RR T V g) {a : Nat} (ha : a < 16) (k v : Int32) : ∃ (X : Nat) (g1 : Nat → Int32), F_X12_slot N g (8003 + nI a) (8019 + 24 * nI a) 2 12 = some (nI X, g1) ∧ X + 1 < 8403 ∧ 8019 ≤ X ∧ RL g1 (T 6) (T 7) ∧ RR (va_up T 8 (dB (T 8) a k v)) V (upd (upd g1 X (kc k)) (X + 1) v) := by
  have hrb := h.2.2.2.2.2.2.2.1
  have hba := hrb a ha
  obtain ⟨g1, h1, h2, h3, h4⟩ := g_slot hN (most := 12) hba.1 (by decide) (by decide) (by rw [List.length_map]; exact hba.2) (by omega) (by omega) (Or.inl (by omega))
  have hkl := keepR_len (most := 12) hba.2 (by decide)
  rw [keepR_map, List.length_map] at h1 h2 h3
  have e1 : (8003 : Int32) + nI a = nI (8003 + a) := nI_add 8003 a
  have e2 : (8019 : Int32) + 24 * nI a = nI (8019 + 24 * a) := by
    have : (24 : Int32) * nI a = nI (24 * a) := pk_mul 24 a
    rw [this]
    exact nI_add 8019 _
  have h1' : F_X12_slot N g (8003 + nI a) (8019 + 24 * nI a) 2 12 = some (nI (8019 + 24 * a + (keepR 12 (bx (T 8) a)).length * 2), g1) := by rw [e1, e2]; exact h1
  generalize hX : 8019 + 24 * a + (keepR 12 (bx (T 8) a)).length * 2 = X at h1'
  refine ⟨X, g1, h1', by omega, by omega, RL.frame h.2.2.2.2.2.2.1 (fun p hp => h4 p (by omega) (by omega)), ?_⟩
  refine h.uRB (fun b hb => ?_) (fun p hp hq => ?_)
  · rw [bx_dB ha hba.2 k v hb]
    by_cases q : b = a
    · subst q
      rw [if_pos rfl]
      refine ⟨?_, by rw [List.length_append, List.length_singleton]; omega⟩
      rw [List.map_append]
      refine GT.pushed (g' := g1) (by rw [List.length_map]; exact h2) (by rw [List.length_map]; exact h3) (by rw [upd_ne (by omega), upd_ne (by omega)]) (fun p h5 h6 => ?_) (fun j hj => ?_)
      · rw [List.length_map] at h6; rw [upd_ne (by omega), upd_ne (by omega)]
      · rw [List.length_map]
        match j, hj with
        | 0, _ => rw [show 8019 + 24 * b + ((keepR 12 (bx (T 8) b)).length * 2 + 0) = X by omega, upd_ne (by omega), upd_at]; rfl
        | 1, _ => rw [show 8019 + 24 * b + ((keepR 12 (bx (T 8) b)).length * 2 + 1) = X + 1 by omega, upd_at]; rfl
        | j + 2, hj => omega
    · rw [if_neg q]
      have hbb := hrb b hb
      refine ⟨hbb.1.frame ?_ (fun p h5 h6 => ?_), hbb.2⟩
      · rw [upd_ne (by omega), upd_ne (by omega)]
        exact h4 _ (by omega) (by omega)
      · rw [List.length_map] at h6
        have := hbb.2
        have hab : 24 * b + 24 ≤ 24 * a ∨ 24 * a + 24 ≤ 24 * b := by omega
        rw [upd_ne (by omega), upd_ne (by omega)]
        exact h4 p (by omega) (by omega)
  · rw [upd_ne (by omega), upd_ne (by omega)]
    exact h4 p (by omega) (by omega)
theorem dB_iB {boxes : Rows} (h : iB boxes) {a : Nat} (ha : a < 16) {k : Int32} (hk : Vk k) (v : Int32) : iB (dB boxes a k v) := by
  intro r hr
  unfold dB at hr
  rcases List.mem_append.mp hr with q | q
  · split at q
    · exact h r q
    · exact h r (List.mem_of_mem_eraseIdx q)
  · rw [List.mem_singleton.mp q]
    exact ⟨⟨a, ha, rfl⟩, hk⟩
