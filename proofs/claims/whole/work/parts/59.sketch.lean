/-! ===== the sketch: both sides ===== -/
def pl (h : Int32) (r : Nat) : Nat := ((h * (2 * nI r + 1)).toBitVec.toNat / 2 ^ (3 + 5 * r)) % 16
theorem ush_cnt : ∀ r, r < 4 → (((3 + 5 * nI r).toUInt32 &&& Int32.toUInt32 31).toBitVec % 32).toNat = 3 + 5 * r := by decide
theorem ush_eq (x : Int32) {r : Nat} (hr : r < 4) : ush x (3 + 5 * nI r) = nI (x.toBitVec.toNat / 2 ^ (3 + 5 * r)) := by
  have h1 := pk_ushr x (3 + 5 * nI r) (3 + 5 * r) (ush_cnt r hr)
  apply Int32.toBitVec_inj.mp
  apply BitVec.eq_of_toNat_eq
  rw [h1, pk_tn]
  have := x.toBitVec.isLt
  exact Nat.lt_of_le_of_lt (Nat.div_le_self _ _) this
theorem pl_eq (h : Int32) {r : Nat} (hr : r < 4) : irm (ush (h * (2 * nI r + 1)) (3 + 5 * nI r)) 16 = nI (pl h r) := by
  rw [ush_eq _ hr]
  have h1 := (h * (2 * nI r + 1)).toBitVec.isLt
  have h2 : (h * (2 * nI r + 1)).toBitVec.toNat / 2 ^ (3 + 5 * r) < 2 ^ 31 := by
    have h3 : 2 ^ 3 ≤ 2 ^ (3 + 5 * r) := Nat.pow_le_pow_right (by decide) (by omega)
    have h4 : (h * (2 * nI r + 1)).toBitVec.toNat / 2 ^ (3 + 5 * r) ≤ (h * (2 * nI r + 1)).toBitVec.toNat / 2 ^ 3 := Nat.div_le_div_left h3 (by decide)
    have h5 : (2 : Nat) ^ 3 = 8 := by decide
    have h6 : (2 : Nat) ^ 32 = 4294967296 := by decide
    have h7 : (2 : Nat) ^ 31 = 2147483648 := by decide
    omega
  exact pk_rem (d := 16) h2 (by decide) (by decide)
theorem pl_lt (h : Int32) (r : Nat) : pl h r < 16 := Nat.mod_lt _ (by decide)
theorem n_place (h : Int32) {r : Nat} (hr : r < 4) : F_X7_placeOf h (nI r) = some (nI (r * 16 + pl h r)) := by
  unfold F_X7_placeOf
  rw [pl_eq h hr]
  have : nI r * 16 = nI (r * 16) := pk_mul r 16
  rw [this, nI_add]
theorem s_place {N : Nat} (hN : 65536 ≤ N) {k : Int32} (hk : Vk k) {r : Nat} (hr : r < 4) : F_X12_placeOf N (kc k) (nI r) = some (nI (pl (hn k) r)) := by
  unfold F_X12_placeOf
  rw [n_hash hN hk, bd_t rfl, pl_eq _ hr]
/-- the least count of the first rows -/
def lea (cnt : Nat → Int32) (h : Int32) : Nat → Int32
  | 0 => 15
  | r + 1 => imn (lea cnt h r) (cnt (r * 16 + pl h r))
theorem n_leastL {N : Nat} {cnt : Nat → Int32} (h : Int32) : ∀ (n r : Nat), r ≤ 4 → 4 < n + r → L_X7_least_11 N (fun x3 => some x3) h cnt n (lea cnt h r) (nI r) = some (lea cnt h 4) := by
  intro n
  induction n with
  | zero => intro r h1 h2; omega
  | succ n ih =>
    intro r h1 h2
    rw [e_X7_least_11]
    unfold K_X7_least_11
    by_cases h3 : r = 4
    · subst h3; rw [if_pos (by decide)]
    have h4 : r < 4 := by omega
    have hp := pl_lt h r
    have ih' := ih (r + 1) (by omega) (by omega)
    rw [if_neg (show ¬ (4 : Int32) ≤ nI r from nI_ge (b := 4) h4 (by omega)), n_place h h4, bd_t rfl, if_neg (nI_pos (by omega)), if_neg (nI_ge (by omega) (by omega)), ldn (i := nI (r * 16 + pl h r)) (n := 64) (k := r * 16 + pl h r) rfl (by omega), ldn (i := nI (r * 16 + pl h r)) (n := 64) (k := r * 16 + pl h r) rfl (by omega)]
    unfold J_X7_least_59
    simp only [lt_b, nI_1]
    have e1 : lea cnt h (r + 1) = imn (lea cnt h r) (cnt (r * 16 + pl h r)) := rfl
    rw [e1] at ih'
    by_cases h5 : lea cnt h r ≤ cnt (r * 16 + pl h r)
    · rw [if_pos h5]
      have e2 : imn (lea cnt h r) (cnt (r * 16 + pl h r)) = lea cnt h r := if_neg (Int32.not_lt.mpr h5)
      rw [e2] at ih'
      exact ih'
    · rw [if_neg h5]
      have e2 : imn (lea cnt h r) (cnt (r * 16 + pl h r)) = cnt (r * 16 + pl h r) := if_pos (Int32.not_le.mp h5)
      rw [e2] at ih'
      exact ih'
theorem n_least {N : Nat} (hN : 65536 ≤ N) {cnt : Nat → Int32} {k : Int32} (hk : Vk0 k) : F_X7_least N cnt k = some (lea cnt (hn k) 4) := by
  unfold F_X7_least
  rw [n_number hN hk, bd_t rfl]
  have := n_leastL (N := N) (cnt := cnt) (hn k) N 0 (by omega) (by omega)
  rw [nI_0] at this
  exact this
theorem ix4 (a b c d : Nat) : nI a + nI b * nI c + nI d = nI (a + b * c + d) := by rw [pk_mul, nI_add, nI_add]
theorem s_seenL {N : Nat} (hN : 65536 ≤ N) {g cnt : Nat → Int32} (hs : RS g cnt) {k : Int32} (hk : Vk k) : ∀ (n r : Nat), r ≤ 4 → 4 < n + r → L_X12_seenOf_5 N (fun x2 => some x2) (kc k) g n (lea cnt (hn k) r) (nI r) = some (lea cnt (hn k) 4) := by
  intro n
  induction n with
  | zero => intro r h1 h2; omega
  | succ n ih =>
    intro r h1 h2
    rw [e_X12_seenOf_5]
    unfold K_X12_seenOf_5
    by_cases h3 : r = 4
    · subst h3; rw [if_pos (by decide)]
    have h4 : r < 4 := by omega
    have hp := pl_lt (hn k) r
    have hi : (34 : Int32) + 16 * nI r + nI (pl (hn k) r) = nI (34 + 16 * r + pl (hn k) r) := ix4 34 16 r (pl (hn k) r)
    have e1 : g (34 + 16 * r + pl (hn k) r) = cnt (r * 16 + pl (hn k) r) := by
      have := hs (r * 16 + pl (hn k) r) (by omega)
      rw [← this]
      congr 1
      omega
    rw [if_neg (show ¬ (4 : Int32) ≤ nI r from nI_ge (b := 4) h4 (by omega)), s_place hN hk h4, bd_t rfl, gl (34 + 16 * nI r + nI (pl (hn k) r)) (34 + 16 * r + pl (hn k) r) hi (by omega), e1, lt_b, lt_b, nI_1]
    exact ih (r + 1) (by omega) (by omega)
theorem s_seen {N : Nat} (hN : 65536 ≤ N) {g cnt : Nat → Int32} (hs : RS g cnt) {k : Int32} (hk : Vk k) : F_X12_seenOf N g (kc k) = some (lea cnt (hn k) 4) := by
  unfold F_X12_seenOf
  have := s_seenL hN hs hk N 0 (by omega) (by omega)
  rw [nI_0] at this
  exact this
/-- a key's counts are one more -/
def sadd (h : Int32) : Nat → (Nat → Int32) → Nat → Int32
  | 0, cnt => cnt
  | r + 1, cnt => let c := sadd h r cnt; upd c (r * 16 + pl h r) (if 15 ≤ c (r * 16 + pl h r) then c (r * 16 + pl h r) else c (r * 16 + pl h r) + 1)
def c15 (cnt : Nat → Int32) : Prop := ∀ i, i < 64 → ∃ a, a ≤ 15 ∧ cnt i = nI a
theorem c15.step {c : Nat → Int32} (h : c15 c) {p : Nat} (hp : p < 64) : c15 (upd c p (if 15 ≤ c p then c p else c p + 1)) := by
  intro i hi
  by_cases q : i = p
  · subst q
    obtain ⟨a, h1, h2⟩ := h i hi
    rw [upd_at, h2]
    by_cases h3 : (15 : Int32) ≤ nI a
    · rw [if_pos h3]; exact ⟨a, h1, rfl⟩
    · rw [if_neg h3, nI_1]
      have h4 : a < 15 := nI_lts (b := 15) h3 (by omega) (by omega)
      exact ⟨a + 1, by omega, rfl⟩
  · rw [upd_ne q]; exact h i hi
theorem upd_self (f : Nat → Int32) (k : Nat) : upd f k (f k) = f := by
  funext j
  by_cases q : j = k
  · subst q; rw [upd_at]
  · rw [upd_ne q]
theorem n_addL {N : Nat} (h : Int32) (c0 : Nat → Int32) : ∀ (n r : Nat), r ≤ 4 → 4 < n + r → L_X7_add_7 N (fun cnt => some cnt) h n (nI r) (sadd h r c0) = some (sadd h 4 c0) := by
  intro n
  induction n with
  | zero => intro r h1 h2; omega
  | succ n ih =>
    intro r h1 h2
    rw [e_X7_add_7]
    unfold K_X7_add_7
    by_cases h3 : r = 4
    · subst h3; rw [if_pos (by decide)]
    have h4 : r < 4 := by omega
    have hp := pl_lt h r
    have ih' := ih (r + 1) (by omega) (by omega)
    rw [if_neg (show ¬ (4 : Int32) ≤ nI r from nI_ge (b := 4) h4 (by omega)), n_place h h4, bd_t rfl, if_neg (nI_pos (by omega)), if_neg (nI_ge (by omega) (by omega)), ldn (i := nI (r * 16 + pl h r)) (n := 64) (k := r * 16 + pl h r) rfl (by omega), ldn (i := nI (r * 16 + pl h r)) (n := 64) (k := r * 16 + pl h r) rfl (by omega), ston (i := nI (r * 16 + pl h r)) (n := 64) (k := r * 16 + pl h r) rfl (by omega)]
    unfold J_X7_add_57
    simp only [lt_b, nI_1]
    have e1 : sadd h (r + 1) c0 = upd (sadd h r c0) (r * 16 + pl h r) (if 15 ≤ sadd h r c0 (r * 16 + pl h r) then sadd h r c0 (r * 16 + pl h r) else sadd h r c0 (r * 16 + pl h r) + 1) := rfl
    rw [e1] at ih'
    by_cases h5 : 15 ≤ sadd h r c0 (r * 16 + pl h r)
    · rw [if_pos h5] at ih' ⊢
      rw [upd_self] at ih'
      exact ih'
    · rw [if_neg h5] at ih' ⊢
      exact ih'
theorem n_skadd {N : Nat} (hN : 65536 ≤ N) {cnt : Nat → Int32} {k : Int32} (hk : Vk0 k) : F_X7_add N cnt k = some (sadd (hn k) 4 cnt) := by
  unfold F_X7_add
  rw [n_number hN hk, bd_t rfl]
  have := n_addL (N := N) (hn k) cnt N 0 (by omega) (by omega)
  rw [nI_0] at this
  exact this
theorem imn15 {a : Nat} (h : a ≤ 15) : imn 15 (nI a + 1) = if 15 ≤ nI a then nI a else nI a + 1 := by
  rw [nI_1]
  unfold imn
  by_cases q : a = 15
  · subst q; rfl
  · have h1 : ¬ (15 : Int32) ≤ nI a := nI_ge (b := 15) (by omega) (by omega)
    rw [if_neg h1]
    by_cases q2 : a = 14
    · subst q2; rfl
    · rw [if_pos (show nI (a + 1) < 15 from nI_lt (b := 15) (by omega) (by omega))]
theorem c15_sadd {h : Int32} {c0 : Nat → Int32} (h0 : c15 c0) : ∀ r, r ≤ 4 → c15 (sadd h r c0)
  | 0, _ => h0
  | r + 1, hr => (c15_sadd h0 r (by omega)).step (by have := pl_lt h r; omega)
theorem s_skaddL {N : Nat} (hN : 65536 ≤ N) {k : Int32} (hk : Vk k) {T : Nat → Rows} {V : Nat → Nat → Int32} {c0 : Nat → Int32} (h0 : c15 c0) : ∀ (n r : Nat) (g : Nat → Int32), r ≤ 4 → 4 < n + r → RR T (va_up V 3 (sadd (hn k) r c0)) g → ∃ g', L_X12_uses_58 N (fun g => some g) (kc k) n (nI r) g = some g' ∧ RR T (va_up V 3 (sadd (hn k) 4 c0)) g' := by
  intro n
  induction n with
  | zero => intro r g h1 h2; omega
  | succ n ih =>
    intro r g h1 h2 hr
    rw [e_X12_uses_58]
    unfold K_X12_uses_58
    by_cases h3 : r = 4
    · subst h3; rw [if_pos (by decide)]; exact ⟨g, rfl, hr⟩
    have h4 : r < 4 := by omega
    have hp := pl_lt (hn k) r
    have hs : RS g (sadd (hn k) r c0) := hr.2.2.2.2.2.2.2.2.2.2.2
    have hi : (34 : Int32) + 16 * nI r + nI (pl (hn k) r) = nI (34 + 16 * r + pl (hn k) r) := ix4 34 16 r (pl (hn k) r)
    have e1 : g (34 + 16 * r + pl (hn k) r) = sadd (hn k) r c0 (r * 16 + pl (hn k) r) := by
      have := hs (r * 16 + pl (hn k) r) (by omega)
      rw [← this]
      congr 1
      omega
    rw [if_neg (show ¬ (4 : Int32) ≤ nI r from nI_ge (b := 4) h4 (by omega)), s_place hN hk h4, bd_t rfl, lt_b, gl (34 + 16 * nI r + nI (pl (hn k) r)) (34 + 16 * r + pl (hn k) r) hi (by omega), gs (34 + 16 * nI r + nI (pl (hn k) r)) (34 + 16 * r + pl (hn k) r) hi (by omega), lt_b, nI_1, e1]
    obtain ⟨a, ha, hv⟩ := c15_sadd h0 r (by omega) (r * 16 + pl (hn k) r) (by omega)
    refine ih (r + 1) _ (by omega) (by omega) ?_
    have r2 := hr.uRS (v := sadd (hn k) (r + 1) c0) (g' := upd g (34 + 16 * r + pl (hn k) r) (imn 15 (sadd (hn k) r c0 (r * 16 + pl (hn k) r) + 1))) (fun i hi2 => ?_) (fun p hp2 hq => upd_ne (by omega))
    · rw [bx_uu] at r2; exact r2
    · have e2 : sadd (hn k) (r + 1) c0 = upd (sadd (hn k) r c0) (r * 16 + pl (hn k) r) (if 15 ≤ sadd (hn k) r c0 (r * 16 + pl (hn k) r) then sadd (hn k) r c0 (r * 16 + pl (hn k) r) else sadd (hn k) r c0 (r * 16 + pl (hn k) r) + 1) := rfl
      rw [e2, hv, imn15 ha]
      by_cases q : i = r * 16 + pl (hn k) r
      · rw [q, upd_at, show 34 + (r * 16 + pl (hn k) r) = 34 + 16 * r + pl (hn k) r by omega, upd_at]
      · rw [upd_ne q, upd_ne (by omega)]
        exact hs i hi2
