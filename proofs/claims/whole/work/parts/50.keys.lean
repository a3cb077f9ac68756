/-! ===== keys: letters, the last one first; what both sides make of them ===== -/
def cd (b : Nat) : List Nat → Nat
  | [] => 0
  | x :: xs => cd b xs * b + x
def Lk (ks : List Nat) : Prop := (∀ x ∈ ks, 1 ≤ x ∧ x ≤ 26) ∧ ks.length ≤ 6
theorem Lk.tail {x : Nat} {xs : List Nat} (h : Lk (x :: xs)) : Lk xs := ⟨fun y hy => h.1 y (List.mem_cons_of_mem _ hy), by have := h.2; simp at this; omega⟩
theorem Lk.head {x : Nat} {xs : List Nat} (h : Lk (x :: xs)) : 1 ≤ x ∧ x ≤ 26 := h.1 x List.mem_cons_self
theorem cd_lt {b : Nat} (hb : 27 ≤ b) : ∀ ks : List Nat, (∀ x ∈ ks, 1 ≤ x ∧ x ≤ 26) → cd b ks < b ^ ks.length
  | [], _ => by simp [cd]
  | x :: xs, h => by
    have h1 := cd_lt hb xs (fun y hy => h y (List.mem_cons_of_mem _ hy))
    have h2 := h x List.mem_cons_self
    have h3 : (cd b xs + 1) * b ≤ b ^ xs.length * b := Nat.mul_le_mul_right b h1
    rw [Nat.add_mul, Nat.one_mul] at h3
    show cd b xs * b + x < b ^ (xs.length + 1)
    rw [Nat.pow_succ]
    omega
theorem cd_big {b : Nat} (hb : 27 ≤ b) (hb2 : b ≤ 32) {ks : List Nat} (h : Lk ks) : cd b ks < 1073741824 := by
  have h1 := cd_lt hb ks h.1
  have h2 : b ^ ks.length ≤ 32 ^ 6 := Nat.le_trans (Nat.pow_le_pow_right (by omega) h.2) (Nat.pow_le_pow_left hb2 6)
  have h3 : (32 : Nat) ^ 6 = 1073741824 := by decide
  omega
theorem cd_pos {b : Nat} {x : Nat} {xs : List Nat} (h : 1 ≤ x) : 0 < cd b (x :: xs) := by
  show 0 < cd b xs * b + x
  omega
theorem cd_inj {b : Nat} (hb : 27 ≤ b) : ∀ ks qs : List Nat, (∀ x ∈ ks, 1 ≤ x ∧ x ≤ 26) → (∀ x ∈ qs, 1 ≤ x ∧ x ≤ 26) → cd b ks = cd b qs → ks = qs
  | [], [], _, _, _ => rfl
  | [], y :: ys, _, h2, e => by
    have := cd_pos (b := b) (xs := ys) (h2 y List.mem_cons_self).1
    rw [← e] at this
    exact absurd this (Nat.lt_irrefl 0)
  | x :: xs, [], h1, _, e => by
    have := cd_pos (b := b) (xs := xs) (h1 x List.mem_cons_self).1
    rw [e] at this
    exact absurd this (Nat.lt_irrefl 0)
  | x :: xs, y :: ys, h1, h2, e => by
    have e' : cd b xs * b + x = cd b ys * b + y := e
    have hx := h1 x List.mem_cons_self
    have hy := h2 y List.mem_cons_self
    have m1 : (cd b xs * b + x) % b = x := by rw [Nat.mul_comm, Nat.mul_add_mod]; exact Nat.mod_eq_of_lt (by omega)
    have m2 : (cd b ys * b + y) % b = y := by rw [Nat.mul_comm, Nat.mul_add_mod]; exact Nat.mod_eq_of_lt (by omega)
    have hxy : x = y := by rw [← m1, ← m2, e']
    subst hxy
    have h3 : cd b xs * b = cd b ys * b := by omega
    have h4 : cd b xs = cd b ys := Nat.eq_of_mul_eq_mul_right (by omega) h3
    rw [cd_inj hb xs ys (fun z hz => h1 z (List.mem_cons_of_mem _ hz)) (fun z hz => h2 z (List.mem_cons_of_mem _ hz)) h4]
def pk (ks : List Nat) : Int32 := nI (cd 32 ks)
def rk (ks : List Nat) : Int32 := nI (cd 27 ks)
/-- a key as the class and as the reference hold it -/
def KR (k q : Int32) : Prop := ∃ ks : List Nat, Lk ks ∧ ks ≠ [] ∧ k = pk ks ∧ q = rk ks
theorem pk_inj {ks qs : List Nat} (h1 : Lk ks) (h2 : Lk qs) : pk ks = pk qs ↔ ks = qs := by
  constructor
  · intro e
    have := (nI_eq (by have := cd_big (b := 32) (by omega) (by omega) h1; omega) (by have := cd_big (b := 32) (by omega) (by omega) h2; omega)).mp e
    exact cd_inj (by omega) _ _ h1.1 h2.1 this
  · rintro rfl; rfl
theorem rk_inj {ks qs : List Nat} (h1 : Lk ks) (h2 : Lk qs) : rk ks = rk qs ↔ ks = qs := by
  constructor
  · intro e
    have := (nI_eq (by have := cd_big (b := 27) (by omega) (by omega) h1; omega) (by have := cd_big (b := 27) (by omega) (by omega) h2; omega)).mp e
    exact cd_inj (by omega) _ _ h1.1 h2.1 this
  · rintro rfl; rfl
theorem KR.eq {k q k' q' : Int32} (h : KR k q) (h' : KR k' q') : k = k' ↔ q = q' := by
  obtain ⟨ks, h1, -, rfl, rfl⟩ := h
  obtain ⟨qs, h2, -, rfl, rfl⟩ := h'
  rw [pk_inj h1 h2, rk_inj h1 h2]
theorem KR.fn {k q q' : Int32} (h : KR k q) (h' : KR k q') : q = q' := (h.eq h').mp rfl
theorem KR.ne0 {k q : Int32} (h : KR k q) : ¬ k = 0 ∧ ¬ q = 0 := by
  obtain ⟨ks, h1, h2, rfl, rfl⟩ := h
  cases ks with
  | nil => exact absurd rfl h2
  | cons x xs =>
    have hx := h1.head.1
    exact ⟨nI_ne0 (cd_pos hx) (by have := cd_big (b := 32) (by omega) (by omega) h1; omega), nI_ne0 (cd_pos hx) (by have := cd_big (b := 27) (by omega) (by omega) h1; omega)⟩
theorem cd_div {b x : Nat} {xs : List Nat} (hb : 27 ≤ b) (h : x ≤ 26) : cd b (x :: xs) / b = cd b xs := by
  show (cd b xs * b + x) / b = cd b xs
  rw [Nat.mul_comm, Nat.mul_add_div (by omega), Nat.div_eq_of_lt (by omega), Nat.add_zero]
theorem cd_mod {b x : Nat} {xs : List Nat} (hb : 27 ≤ b) (h : x ≤ 26) : cd b (x :: xs) % b = x := by
  show (cd b xs * b + x) % b = x
  rw [Nat.mul_comm, Nat.mul_add_mod]
  exact Nat.mod_eq_of_lt (by omega)
theorem sh5 : (((5 : Int32) &&& 31).toBitVec.smod 32).toNat = 5 := by decide
theorem pk_shr5 {x : Nat} {xs : List Nat} (h : Lk (x :: xs)) : pk (x :: xs) >>> ((5 : Int32) &&& 31) = pk xs := by
  unfold pk
  rw [pk_shrN (by have := cd_big (b := 32) (by omega) (by omega) h; omega) _ 5 sh5]
  show nI (cd 32 (x :: xs) / 32) = _
  rw [cd_div (by omega) h.head.2]
theorem rk_div {x : Nat} {xs : List Nat} (h : Lk (x :: xs)) : rk (x :: xs) / 27 = rk xs := by
  unfold rk
  have := pk_div (a := cd 27 (x :: xs)) (d := 27) (by have := cd_big (b := 27) (by omega) (by omega) h; omega) (by omega) (by omega)
  rw [cd_div (by omega) h.head.2] at this
  exact this
theorem rk_rem {x : Nat} {xs : List Nat} (h : Lk (x :: xs)) : irm (rk (x :: xs)) 27 = nI x := by
  unfold rk
  have := pk_rem (a := cd 27 (x :: xs)) (d := 27) (by have := cd_big (b := 27) (by omega) (by omega) h; omega) (by omega) (by omega)
  rw [cd_mod (by omega) h.head.2] at this
  exact this
theorem pk_nil : pk [] = 0 := rfl
theorem rk_nil : rk [] = 0 := rfl
theorem pk_npos {x : Nat} {xs : List Nat} (h : Lk (x :: xs)) : ¬ pk (x :: xs) ≤ 0 := nI_nle (cd_pos h.head.1) (by have := cd_big (b := 32) (by omega) (by omega) h; omega)
theorem rk_npos {x : Nat} {xs : List Nat} (h : Lk (x :: xs)) : ¬ rk (x :: xs) ≤ 0 := nI_nle (cd_pos h.head.1) (by have := cd_big (b := 27) (by omega) (by omega) h; omega)
theorem k_lengthL (N : Nat) (k : Int32 → Option Int32) : ∀ (ks : List Nat) (n i : Nat), Lk ks → ks.length < n → i + ks.length ≤ 6 → L_X1_length_4 N k n (nI i) (pk ks) = k (nI (i + ks.length))
  | [], n, i, _, hn, _ => by
    obtain ⟨n, rfl⟩ : ∃ q, n = q + 1 := ⟨n - 1, by simp at hn; omega⟩
    show K_X1_length_4 N (L_X1_length_4 N k n) k (nI i) (pk []) = _
    unfold K_X1_length_4
    rw [if_pos (show pk [] ≤ 0 by decide)]
    rfl
  | x :: xs, n, i, h, hn, hi => by
    obtain ⟨n, rfl⟩ : ∃ q, n = q + 1 := ⟨n - 1, by simp at hn; omega⟩
    simp only [List.length_cons] at hn hi
    show K_X1_length_4 N (L_X1_length_4 N k n) k (nI i) (pk (x :: xs)) = _
    unfold K_X1_length_4
    rw [if_neg (pk_npos h), if_neg (show ¬ (6 : Int32) ≤ nI i from nI_ge (b := 6) (by omega) (by omega)), lt_b, lt_b, pk_shr5 h, nI_1, k_lengthL N k xs n (i + 1) h.tail (by omega) (by omega), List.length_cons]
    rw [show i + 1 + xs.length = i + (xs.length + 1) by omega]
theorem k_length {N : Nat} (hN : 65536 ≤ N) {ks : List Nat} (h : Lk ks) : F_X1_length N (pk ks) = some (nI ks.length) := by
  unfold F_X1_length
  have := k_lengthL N (fun x1 => some x1) ks N 0 h (by have := h.2; omega) (by have := h.2; omega)
  rw [nI_0, Nat.zero_add] at this
  exact this
theorem k_sizeL (N : Nat) (k : Int32 → Option Int32) : ∀ (ks : List Nat) (n i : Nat), Lk ks → ks.length < n → L_X12_sizeOf_4 N k n (nI i) (rk ks) = k (nI (i + ks.length))
  | [], n, i, _, hn => by
    obtain ⟨n, rfl⟩ : ∃ q, n = q + 1 := ⟨n - 1, by simp at hn; omega⟩
    show K_X12_sizeOf_4 N (L_X12_sizeOf_4 N k n) k (nI i) (rk []) = _
    unfold K_X12_sizeOf_4
    rw [if_pos (show rk [] ≤ 0 by decide)]
    rfl
  | x :: xs, n, i, h, hn => by
    obtain ⟨n, rfl⟩ : ∃ q, n = q + 1 := ⟨n - 1, by simp at hn; omega⟩
    simp only [List.length_cons] at hn
    show K_X12_sizeOf_4 N (L_X12_sizeOf_4 N k n) k (nI i) (rk (x :: xs)) = _
    unfold K_X12_sizeOf_4
    rw [if_neg (rk_npos h), lt_b, lt_b, rk_div h, nI_1, k_sizeL N k xs n (i + 1) h.tail (by omega), List.length_cons]
    rw [show i + 1 + xs.length = i + (xs.length + 1) by omega]
theorem k_size {N : Nat} (hN : 65536 ≤ N) {ks : List Nat} (h : Lk ks) : F_X12_sizeOf N (rk ks) = some (nI ks.length) := by
  unfold F_X12_sizeOf
  have := k_sizeL N (fun x1 => some x1) ks N 0 h (by have := h.2; omega)
  rw [nI_0, Nat.zero_add] at this
  exact this
/-- byte i of a key, from the front -/
def kb (ks : List Nat) (i : Nat) : Int32 := nI (ks.getD (ks.length - 1 - i) 0 + 96)
theorem cd_shift {b : Nat} (hb : 27 ≤ b) : ∀ (j : Nat) (ks : List Nat), (∀ x ∈ ks, 1 ≤ x ∧ x ≤ 26) → cd b ks / b ^ j = cd b (ks.drop j)
  | 0, ks, _ => by simp
  | j + 1, [], _ => by simp [cd]
  | j + 1, x :: xs, h => by
    rw [Nat.pow_succ, Nat.mul_comm, ← Nat.div_div_eq_div_mul, cd_div hb (h x List.mem_cons_self).2, cd_shift hb j xs (fun y hy => h y (List.mem_cons_of_mem _ hy))]
    rfl
theorem Lk.drop {ks : List Nat} (h : Lk ks) (j : Nat) : Lk (ks.drop j) := ⟨fun x hx => h.1 x (List.mem_of_mem_drop hx), by rw [List.length_drop]; have := h.2; omega⟩
theorem sh5j : ∀ j, j < 6 → (((5 * nI j) &&& 31).toBitVec.smod 32).toNat = 5 * j := by decide
theorem pk_shrj {ks : List Nat} (h : Lk ks) {j : Nat} (hj : j < 6) : pk ks >>> ((5 * nI j) &&& 31) = pk (ks.drop j) := by
  unfold pk
  rw [pk_shrN (by have := cd_big (b := 32) (by omega) (by omega) h; omega) _ (5 * j) (sh5j j hj), Nat.pow_mul]
  show nI (cd 32 ks / 32 ^ j) = _
  rw [cd_shift (by omega) j ks h.1]
theorem drop_head {ks : List Nat} {j : Nat} (h : j < ks.length) : ks.drop j = ks.getD j 0 :: ks.drop (j + 1) := by
  rw [List.drop_eq_getElem_cons h, q_getD_lt h]
theorem pk_and31 {x : Nat} {xs : List Nat} (h : Lk (x :: xs)) : pk (x :: xs) &&& 31 = nI x := by
  unfold pk
  rw [pk_andN (n := cd 32 (x :: xs)) (by have := cd_big (b := 32) (by omega) (by omega) h; omega) 5 (by decide)]
  show nI (cd 32 (x :: xs) % 32) = _
  rw [cd_mod (by omega) h.head.2]
theorem k_byteAt {N : Nat} (hN : 65536 ≤ N) {ks : List Nat} (h : Lk ks) {i : Nat} (hi : i < ks.length) : F_X1_byteAt N (pk ks) (nI i) = some (kb ks i) := by
  have h6 := h.2
  unfold F_X1_byteAt
  rw [k_length hN h, bd_t rfl, if_neg (nI_pos (by omega)), if_pos (nI_lt hi (by omega))]
  obtain ⟨q, hq⟩ : ∃ q, ks.length = q + 1 := ⟨ks.length - 1, by omega⟩
  rw [hq, nI_pred, pk_sub (by omega), pk_shrj h (by omega), drop_head (by omega)]
  have h2 : Lk (ks.getD (q - i) 0 :: ks.drop (q - i + 1)) := by rw [← drop_head (by omega)]; exact h.drop _
  rw [pk_and31 h2]
  unfold kb
  rw [hq, show q + 1 - 1 - i = q - i by omega, ← nI_add]
  rfl
theorem k_byteAtN {N : Nat} (hN : 65536 ≤ N) {ks : List Nat} (h : Lk ks) {i : Int32} (hi : i < 0 ∨ nI ks.length ≤ i) : F_X1_byteAt N (pk ks) i = some (-1003) := by
  unfold F_X1_byteAt
  rw [k_length hN h, bd_t rfl]
  by_cases h1 : i < 0
  · rw [if_pos h1]
  · rw [if_neg h1, if_neg]
    rcases hi with q | q
    · exact absurd q h1
    · exact fun z => Int32.lt_irrefl (Int32.lt_of_lt_of_le z q)
theorem k_byteL (N : Nat) (k : Int32 → Option Int32) {i : Nat} : ∀ (ks : List Nat) (n : Nat), Lk ks → ks.length < n → i < ks.length → L_X12_byteOf_9 N k (nI i) n (rk ks) (nI (ks.length - 1)) = k (rk (ks.drop (ks.length - 1 - i)))
  | [], n, _, _, hi => by simp at hi
  | x :: xs, n, h, hn, hi => by
    obtain ⟨n, rfl⟩ : ∃ q, n = q + 1 := ⟨n - 1, by simp at hn; omega⟩
    have h6 := h.2
    simp only [List.length_cons] at hn hi h6 ⊢
    show K_X12_byteOf_9 N (L_X12_byteOf_9 N k (nI i) n) k (nI i) (rk (x :: xs)) (nI (xs.length + 1 - 1)) = _
    unfold K_X12_byteOf_9
    by_cases h1 : i = xs.length
    · subst h1
      rw [show xs.length + 1 - 1 = xs.length by omega, if_pos (nI_le (Nat.le_refl _) (by omega)), Nat.sub_self]
      rfl
    · rw [show xs.length + 1 - 1 = xs.length by omega, if_neg (nI_ge (by omega) (by omega)), lt_b, lt_b, rk_div h]
      obtain ⟨q, hq⟩ : ∃ q, xs.length = q + 1 := ⟨xs.length - 1, by omega⟩
      have ih := k_byteL N k xs n h.tail (by omega) (i := i) (by omega)
      rw [hq] at ih ⊢
      rw [pk_m1]
      rw [show q + 1 - 1 = q by omega] at ih
      rw [ih, show q + 1 - i = (q - i) + 1 by omega]
      rfl
theorem k_byteOf {N : Nat} (hN : 65536 ≤ N) {ks : List Nat} (h : Lk ks) {i : Nat} (hi : i < ks.length) : F_X12_byteOf N (rk ks) (nI i) = some (kb ks i) := by
  have h6 := h.2
  unfold F_X12_byteOf
  rw [k_size hN h, bd_t rfl, lt_b]
  have e1 : nI ks.length - 1 = nI (ks.length - 1) := pk_sub (a := ks.length) (b := 1) (by omega)
  rw [e1, k_byteL N _ ks N h (by omega) hi, drop_head (by omega)]
  have h2 : Lk (ks.getD (ks.length - 1 - i) 0 :: ks.drop (ks.length - 1 - i + 1)) := by rw [← drop_head (by omega)]; exact h.drop _
  rw [rk_rem h2]
  unfold kb
  rw [show (96 : Int32) = nI 96 from rfl, nI_add, Nat.add_comm]
/-- what is told of a key: how many bytes at -1, a byte, or NOT -/
def ktell (ks : List Nat) (i : Int32) : Int32 := if i = -1 then nI ks.length else if i < 0 ∨ nI ks.length ≤ i then -1003 else kb ks i.toNatClampNeg
theorem k_tells {N : Nat} (hN : 65536 ≤ N) {ks : List Nat} (h : Lk ks) {i : Int32} (hi : ¬ i < -1) : F_X12_keyTells N (rk ks) i = some (ktell ks i) := by
  have h6 := h.2
  unfold F_X12_keyTells ktell
  rw [k_size hN h, bd_t rfl]
  by_cases h1 : i = -1
  · rw [if_pos h1, if_pos h1]
  rw [if_neg h1, if_neg h1]
  have h0 : ¬ i < 0 := by
    intro q
    rw [Int32.lt_iff_toInt_lt] at q hi
    have e1 : (-1 : Int32).toInt = -1 := by decide
    have e0 : (0 : Int32).toInt = 0 := by decide
    rw [e0] at q
    rw [e1] at hi
    exact h1 (Int32.toInt_inj.mp (by rw [e1]; omega))
  by_cases h2 : nI ks.length ≤ i
  · rw [if_pos h2, if_pos (Or.inr h2)]
  · obtain ⟨j, hj, rfl⟩ := nI_of h0
    have h3 := nI_lts h2 hj (by omega)
    rw [if_neg h2, if_neg (fun q => q.elim h0 h2), nI_clamp hj, k_byteOf hN h h3, bd_t rfl]
theorem k_loB {N : Nat} (hN : 65536 ≤ N) {ks : List Nat} (h : Lk ks) {i : Int32} : F_X11_lengthOrByte N (pk ks) i = some (ktell ks i) := by
  have h6 := h.2
  unfold F_X11_lengthOrByte ktell
  by_cases h1 : i = -1
  · rw [if_pos h1, if_pos h1, k_length hN h, bd_t rfl]
  rw [if_neg h1, if_neg h1]
  by_cases h2 : i < 0 ∨ nI ks.length ≤ i
  · rw [if_pos h2, k_byteAtN hN h h2, bd_t rfl]
  · rw [if_neg h2]
    obtain ⟨j, hj, rfl⟩ := nI_of (fun q => h2 (Or.inl q))
    have h3 := nI_lts (fun q => h2 (Or.inr q)) hj (by omega)
    rw [nI_clamp hj, k_byteAt hN h h3, bd_t rfl]

/-- the number h of a key -/
def hsh : List Nat → Int32
  | [] => 7
  | x :: xs => hsh xs * 31 + nI (x + 96)
theorem sh5k : ∀ j, j < 6 → ((nI (5 * j) &&& 31).toBitVec.smod 32).toNat = 5 * j := by decide
theorem pk_shrk {ks : List Nat} (h : Lk ks) {j : Nat} (hj : j < 6) : pk ks >>> (nI (5 * j) &&& 31) = pk (ks.drop j) := by
  unfold pk
  rw [pk_shrN (by have := cd_big (b := 32) (by omega) (by omega) h; omega) _ (5 * j) (sh5k j hj), Nat.pow_mul]
  show nI (cd 32 ks / 32 ^ j) = _
  rw [cd_shift (by omega) j ks h.1]
theorem k_numberL (N : Nat) (k : Int32 → Option Int32) {ks : List Nat} (h : Lk ks) : ∀ (j n : Nat), j < 6 → j + 1 < n → L_X1_number_12 N k (pk ks) n (hsh (ks.drop (j + 1))) (nI (5 * j)) = k (hsh ks) := by
  have step : ∀ (j n : Nat), j < 6 → (∀ x2, x2 = nI (5 * j) + (-5) → L_X1_number_12 N k (pk ks) n (hsh (ks.drop j)) x2 = k (hsh ks)) → L_X1_number_12 N k (pk ks) (n + 1) (hsh (ks.drop (j + 1))) (nI (5 * j)) = k (hsh ks) := by
    intro j n hj hr
    show K_X1_number_12 N (L_X1_number_12 N k (pk ks) n) k (pk ks) (hsh (ks.drop (j + 1))) (nI (5 * j)) = _
    unfold K_X1_number_12
    rw [if_neg (nI_pos (by omega)), lt_b, pk_shrk h hj]
    by_cases hl : j < ks.length
    · have e1 := drop_head hl
      have h2 : Lk (ks.getD j 0 :: ks.drop (j + 1)) := by rw [← e1]; exact h.drop j
      rw [e1, pk_and31 h2, if_neg (nI_ne0 (by have := h2.head.1; omega) (by have := h2.head.2; omega)), lt_b]
      unfold J_X1_number_37
      rw [lt_b]
      have e2 : hsh (ks.drop (j + 1)) * 31 + nI (ks.getD j 0) + 96 = hsh (ks.drop j) := by
        rw [e1]
        show _ = hsh (ks.drop (j + 1)) * 31 + nI (ks.getD j 0 + 96)
        rw [← nI_add, Int32.add_assoc]
        rfl
      rw [e2]
      exact hr _ rfl
    · have e1 : ks.drop j = [] := List.drop_eq_nil_of_le (by omega)
      have e2 : ks.drop (j + 1) = [] := List.drop_eq_nil_of_le (by omega)
      rw [e1] at hr ⊢
      rw [if_pos (show pk [] &&& 31 = 0 by decide)]
      unfold J_X1_number_37
      rw [lt_b, e2]
      exact hr _ rfl
  intro j
  induction j with
  | zero =>
    intro n hj hn
    obtain ⟨n, rfl⟩ : ∃ q, n = q + 2 := ⟨n - 2, by omega⟩
    refine step 0 (n + 1) hj (fun x2 e => ?_)
    show K_X1_number_12 N (L_X1_number_12 N k (pk ks) n) k (pk ks) (hsh (ks.drop 0)) x2 = _
    unfold K_X1_number_12
    rw [e, if_pos (show nI (5 * 0) + (-5) < 0 by decide)]
    rfl
  | succ j ih =>
    intro n hj hn
    obtain ⟨n, rfl⟩ : ∃ q, n = q + 1 := ⟨n - 1, by omega⟩
    refine step (j + 1) n hj (fun x2 e => ?_)
    have e2 : x2 = nI (5 * j) := by
      rw [e, show 5 * (j + 1) = 5 * j + 5 by omega, ← nI_add, Int32.add_assoc, show nI 5 + (-5) = (0 : Int32) by decide, Int32.add_zero]
    rw [e2]
    exact ih n (by omega) (by omega)
theorem k_number {N : Nat} (hN : 65536 ≤ N) {ks : List Nat} (h : Lk ks) (hne : ks ≠ []) : F_X1_number N (pk ks) = some (hsh ks) := by
  unfold F_X1_number
  rw [if_neg (KR.ne0 ⟨ks, h, hne, rfl, rfl⟩).1]
  have e1 : ks.drop 6 = [] := List.drop_eq_nil_of_le h.2
  have := k_numberL N (fun x1 => some x1) h 5 N (by omega) (by omega)
  rw [e1] at this
  exact this
theorem k_hashL {N : Nat} (hN : 65536 ≤ N) (k : Int32 → Option Int32) {ks : List Nat} (h : Lk ks) : ∀ (n i : Nat), i ≤ ks.length → ks.length < n + i → L_X12_hashOf_10 N k (rk ks) (nI ks.length) n (hsh (ks.drop (ks.length - i))) (nI i) = k (hsh ks) := by
  have h6 := h.2
  intro n
  induction n with
  | zero => intro i h1 h2; omega
  | succ n ih =>
    intro i h1 h2
    show K_X12_hashOf_10 N (L_X12_hashOf_10 N k (rk ks) (nI ks.length) n) k (rk ks) (nI ks.length) (hsh (ks.drop (ks.length - i))) (nI i) = _
    unfold K_X12_hashOf_10
    by_cases h3 : i = ks.length
    · subst h3
      rw [if_pos (nI_le (Nat.le_refl _) (by omega)), Nat.sub_self]
      rfl
    · have h4 : i < ks.length := by omega
      rw [if_neg (nI_ge h4 (by omega)), k_byteOf hN h h4, bd_t rfl, lt_b, lt_b, nI_1]
      have e1 : ks.drop (ks.length - (i + 1)) = ks.getD (ks.length - 1 - i) 0 :: ks.drop (ks.length - i) := by
        rw [drop_head (by omega), show ks.length - (i + 1) = ks.length - 1 - i by omega, show ks.length - 1 - i + 1 = ks.length - i by omega]
      have e2 : hsh (ks.drop (ks.length - i)) * 31 + kb ks i = hsh (ks.drop (ks.length - (i + 1))) := by
        rw [e1]
        rfl
      rw [e2]
      exact ih (i + 1) (by omega) (by omega)
theorem k_hash {N : Nat} (hN : 65536 ≤ N) {ks : List Nat} (h : Lk ks) : F_X12_hashOf N (rk ks) = some (hsh ks) := by
  unfold F_X12_hashOf
  rw [k_size hN h, bd_t rfl]
  have := k_hashL hN (fun x1 => some x1) h N 0 (Nat.zero_le _) (by have := h.2; omega)
  rw [Nat.sub_zero, List.drop_length, nI_0] at this
  exact this
theorem cd_ge {b : Nat} (hb : 27 ≤ b) : ∀ (x : Nat) (xs : List Nat), (∀ y ∈ x :: xs, 1 ≤ y ∧ y ≤ 26) → b ^ xs.length ≤ cd b (x :: xs)
  | x, [], h => by
    have := (h x List.mem_cons_self).1
    show b ^ 0 ≤ 0 * b + x
    simp
    exact this
  | x, y :: ys, h => by
    have h1 := cd_ge hb y ys (fun z hz => h z (List.mem_cons_of_mem _ hz))
    have h2 : b ^ ys.length * b ≤ cd b (y :: ys) * b := Nat.mul_le_mul_right b h1
    show b ^ (ys.length + 1) ≤ cd b (y :: ys) * b + x
    rw [Nat.pow_succ]
    omega
theorem cd_longer {ks ss : List Nat} (h : Lk ks) (hs : Lk ss) (hl : ss.length < ks.length) : cd 27 ss < cd 27 ks := by
  cases ks with
  | nil => simp at hl
  | cons x xs =>
    have h1 := cd_ge (b := 27) (by omega) x xs h.1
    have h2 := cd_lt (b := 27) (by omega) ss hs.1
    have h3 : 27 ^ ss.length ≤ 27 ^ xs.length := Nat.pow_le_pow_right (by omega) (by simp at hl; omega)
    omega
/-- a key begins with another: this one's letters are its last ones, as they stand -/
def kbeg (ks ss : List Nat) : Prop := ss.length ≤ ks.length ∧ ks.drop (ks.length - ss.length) = ss
theorem kbeg_cons {x : Nat} {xs ss : List Nat} (h : x :: xs ≠ ss) : kbeg (x :: xs) ss ↔ kbeg xs ss := by
  unfold kbeg
  constructor
  · rintro ⟨h1, h2⟩
    by_cases q : ss.length = xs.length + 1
    · rw [show (x :: xs).length - ss.length = 0 by simp; omega] at h2
      exact absurd h2 h
    · simp only [List.length_cons] at h1 h2
      have : ss.length ≤ xs.length := by omega
      rw [show xs.length + 1 - ss.length = (xs.length - ss.length) + 1 by omega] at h2
      exact ⟨this, h2⟩
  · rintro ⟨h1, h2⟩
    simp only [List.length_cons]
    rw [show xs.length + 1 - ss.length = (xs.length - ss.length) + 1 by omega]
    exact ⟨by omega, h2⟩
noncomputable def kbegI (ks ss : List Nat) : Int32 := @ite _ (kbeg ks ss) (Classical.propDecidable _) 1 0
theorem k_begRL (N : Nat) {ss : List Nat} (hs : Lk ss) (hne : ss ≠ []) : ∀ (ks : List Nat) (n : Nat), Lk ks → ks.length < n → L_X12_beginsWith_2 N (fun x2 => if (x2 = rk ss : Prop) then some 1 else some 0) (rk ss) n (rk ks) = some (kbegI ks ss) := by
  intro ks
  induction ks with
  | nil =>
    intro n h hn
    obtain ⟨n, rfl⟩ : ∃ q, n = q + 1 := ⟨n - 1, by simp at hn; omega⟩
    show K_X12_beginsWith_2 N (L_X12_beginsWith_2 N (fun x2 => if (x2 = rk ss : Prop) then some 1 else some 0) (rk ss) n) (fun x2 => if (x2 = rk ss : Prop) then some 1 else some 0) (rk ss) (rk []) = _
    unfold K_X12_beginsWith_2
    have hb := cd_big (b := 27) (by omega) (by omega) hs
    rw [if_pos (show rk [] ≤ rk ss from nI_le (a := 0) (Nat.zero_le _) (by omega))]
    have h1 : ¬ rk [] = rk ss := fun e => hne ((rk_inj h hs).mp e).symm
    have h2 : ¬ kbeg [] ss := fun q => hne (List.eq_nil_of_length_eq_zero (by have := q.1; simp at this; simp [this]))
    unfold kbegI
    dsimp only
    rw [if_neg h1, if_neg h2]
  | cons x xs ih =>
    intro n h hn
    obtain ⟨n, rfl⟩ : ∃ q, n = q + 1 := ⟨n - 1, by simp at hn; omega⟩
    show K_X12_beginsWith_2 N (L_X12_beginsWith_2 N (fun x2 => if (x2 = rk ss : Prop) then some 1 else some 0) (rk ss) n) (fun x2 => if (x2 = rk ss : Prop) then some 1 else some 0) (rk ss) (rk (x :: xs)) = _
    unfold K_X12_beginsWith_2
    have hb := cd_big (b := 27) (by omega) (by omega) hs
    have hb2 := cd_big (b := 27) (by omega) (by omega) h
    by_cases h1 : cd 27 (x :: xs) ≤ cd 27 ss
    · rw [if_pos (show rk (x :: xs) ≤ rk ss from nI_le h1 (by omega))]
      have hlen : (x :: xs).length ≤ ss.length := by
        rcases Nat.lt_or_ge ss.length (x :: xs).length with q | q
        · have := cd_longer h hs q; omega
        · exact q
      unfold kbegI
      dsimp only
      by_cases h2 : x :: xs = ss
      · have h3 : kbeg (x :: xs) ss := by rw [h2]; unfold kbeg; rw [Nat.sub_self]; exact ⟨Nat.le_refl _, rfl⟩
        rw [if_pos (show rk (x :: xs) = rk ss by rw [h2]), if_pos h3]
      · have h3 : ¬ kbeg (x :: xs) ss := fun q => by
          have e : (x :: xs).length - ss.length = 0 := by omega
          have := q.2
          rw [e] at this
          exact h2 this
        rw [if_neg (fun e => h2 ((rk_inj h hs).mp e)), if_neg h3]
    · rw [if_neg (show ¬ rk (x :: xs) ≤ rk ss from nI_ge (by omega) (by omega)), lt_b, rk_div h, ih n h.tail (by simp at hn; omega)]
      unfold kbegI
      have h2 : x :: xs ≠ ss := fun e => by rw [e] at h1; omega
      by_cases h3 : kbeg xs ss
      · rw [if_pos h3, if_pos ((kbeg_cons h2).mpr h3)]
      · rw [if_neg h3, if_neg (fun q => h3 ((kbeg_cons h2).mp q))]
theorem k_begR {N : Nat} (hN : 65536 ≤ N) {ks ss : List Nat} (h : Lk ks) (hs : Lk ss) (hne : ss ≠ []) : F_X12_beginsWith N (rk ks) (rk ss) = some (kbegI ks ss) := by
  unfold F_X12_beginsWith
  exact k_begRL N hs hne ks N h (by have := h.2; omega)
theorem k_begC {N : Nat} (hN : 65536 ≤ N) {ks ss : List Nat} (h : Lk ks) (hs : Lk ss) (hne : ss ≠ []) : F_X1_beginsWith N (pk ks) (pk ss) = some (kbegI ks ss) := by
  have h6 := h.2
  have h7 := hs.2
  have hl : 0 < ss.length := List.length_pos_iff.mpr hne
  unfold F_X1_beginsWith
  rw [k_length hN h, bd_t rfl, k_length hN hs, bd_t rfl, lt_b]
  unfold kbegI
  by_cases h1 : ks.length < ss.length
  · rw [if_pos (pk_sneg (by omega) h1), if_neg (fun q => by have := q.1; omega)]
  · rw [pk_sub (by omega), if_neg (nI_pos (by omega)), pk_shrj h (by omega)]
    by_cases h2 : ks.drop (ks.length - ss.length) = ss
    · rw [if_pos (show pk (ks.drop (ks.length - ss.length)) = pk ss by rw [h2]), if_pos (show kbeg ks ss from ⟨by omega, h2⟩)]
    · rw [if_neg (fun e => h2 ((pk_inj (h.drop _) hs).mp e)), if_neg (fun q => h2 q.2)]

/-! ===== the tape: bytes, the first one first ===== -/
def TR (tp : List Nat) (tby : Nat → Int32) (tsz : Int32) (tape : Nat → Int32) (taped : Int32) : Prop :=
  tp.length ≤ 60 ∧ tsz = nI tp.length ∧ taped = nI tp.length ∧ ∀ i, i < tp.length → (tby i = nI (tp.getD i 0) ∧ tape i = nI (tp.getD i 0) ∧ (tp.getD i 0 = 32 ∨ (97 ≤ tp.getD i 0 ∧ tp.getD i 0 ≤ 122)))
/-- bytes as letters, the last one first -/
def lets (bs : List Nat) : List Nat := (bs.map (fun b => b - 96)).reverse
theorem lets_snoc (bs : List Nat) (b : Nat) : lets (bs ++ [b]) = (b - 96) :: lets bs := by unfold lets; simp
theorem lets_len (bs : List Nat) : (lets bs).length = bs.length := by unfold lets; simp
theorem Lk_lets {bs : List Nat} (h : ∀ b ∈ bs, 97 ≤ b ∧ b ≤ 122) (hl : bs.length ≤ 6) : Lk (lets bs) := by
  refine ⟨fun x hx => ?_, by rw [lets_len]; exact hl⟩
  unfold lets at hx
  rw [List.mem_reverse, List.mem_map] at hx
  obtain ⟨b, hb, rfl⟩ := hx
  have := h b hb
  omega
theorem or_add (a x : Nat) (hx : x < 32) (ha : a * 32 < 2 ^ 31) : nI (a * 32) ||| nI x = nI (a * 32 + x) := by
  apply Int32.toBitVec_inj.mp
  apply BitVec.eq_of_toNat_eq
  rw [Int32.toBitVec_or, BitVec.toNat_or, pk_tn (by omega), pk_tn (by omega), pk_tn (by omega)]
  have := Nat.shiftLeft_add_eq_or_of_lt (i := 5) (b := x) hx a
  rw [Nat.shiftLeft_eq] at this
  exact this.symm
theorem sh5l : (((5 : Int32) &&& 31).toBitVec.smod 32).toNat = 5 := by decide
theorem k_with {ks : List Nat} (h : Lk ks) (hl : ks.length < 6) {b : Nat} (hb : 97 ≤ b ∧ b ≤ 122) : F_X1_with (pk ks) (nI b) = some (pk ((b - 96) :: ks)) := by
  unfold F_X1_with pk
  have h1 := cd_lt (b := 32) (by omega) ks h.1
  have h2 : (32 : Nat) ^ ks.length ≤ 32 ^ 5 := Nat.pow_le_pow_right (by omega) (by omega)
  have h3 : (32 : Nat) ^ 5 = 33554432 := by decide
  rw [pk_shlN (n := cd 32 ks) _ 5 sh5l (by omega), show (96 : Int32) = nI 96 from rfl, pk_sub (by omega), pk_andN (n := b - 96) (by omega) 5 (by decide)]
  show some (nI (cd 32 ks * 32) ||| nI ((b - 96) % 32)) = _
  rw [Nat.mod_eq_of_lt (by omega), or_add _ _ (by omega) (by omega)]
  rfl
/-- the whole tape as a key, where it is one -/
def tkey (tp : List Nat) : Prop := tp ≠ [] ∧ tp.length ≤ 6 ∧ ∀ b ∈ tp, 97 ≤ b ∧ b ≤ 122
theorem take_snoc {tp : List Nat} {i : Nat} (h : i < tp.length) : tp.take (i + 1) = tp.take i ++ [tp.getD i 0] := by
  rw [List.take_succ, q_getD_lt h, List.getElem?_eq_getElem h]; rfl
theorem mem_take_lets {tp : List Nat} {i : Nat} {P : Nat → Prop} (hi : i ≤ tp.length) (h : ∀ j, j < i → P (tp.getD j 0)) : ∀ b ∈ tp.take i, P b := by
  intro b hb
  obtain ⟨j, hj, rfl⟩ := List.getElem_of_mem hb
  have hj2 : j < i := by rw [List.length_take] at hj; omega
  have := h j hj2
  rw [q_getD_lt (by omega)] at this
  rw [List.getElem_take]
  exact this
theorem k_takeL (N : Nat) {tp : List Nat} {tby : Nat → Int32} {tsz : Int32} {tape : Nat → Int32} {taped : Int32} (T : TR tp tby tsz tape taped) (h6 : tp.length ≤ 6) (z : Int32) : ∀ (n i : Nat), i ≤ tp.length → tp.length < n + i → (∀ j, j < i → 97 ≤ tp.getD j 0 ∧ tp.getD j 0 ≤ 122) → L_X10_takeKey_22 N (fun x2 => some (x2, z)) (fun _ => some (0, z)) tsz tby z n (pk (lets (tp.take i))) (nI i) = some (@ite _ (∀ b ∈ tp, 97 ≤ b ∧ b ≤ 122) (Classical.propDecidable _) (pk (lets tp)) 0, z) := by
  intro n
  induction n with
  | zero => intro i h1 h2; omega
  | succ n ih =>
    intro i h1 h2 h3
    rw [e_X10_takeKey_22]
    unfold K_X10_takeKey_22
    rw [T.2.1]
    by_cases h4 : i = tp.length
    · subst h4
      rw [if_pos (nI_le (Nat.le_refl _) (by omega)), List.take_length, if_pos]
      have := mem_take_lets (tp := tp) (P := fun b => 97 ≤ b ∧ b ≤ 122) (Nat.le_refl _) h3
      rw [List.take_length] at this
      exact this
    have h5 : i < tp.length := by omega
    obtain ⟨t1, t2, t3⟩ := T.2.2.2 i h5
    rw [if_neg (nI_ge h5 (by omega)), if_neg (nI_ge (by omega) (by omega)), ld_t (vp_in_nI (by omega) (by omega)), nI_clamp (by omega), t1]
    by_cases h7 : tp.getD i 0 = 32
    · rw [h7, if_pos (by decide), if_neg]
      intro q
      have := q _ (List.getElem_mem h5)
      rw [← q_getD_lt (d := 0) h5, h7] at this
      omega
    · have h8 : 97 ≤ tp.getD i 0 ∧ tp.getD i 0 ≤ 122 := by rcases t3 with q | q; exact absurd q h7; exact q
      have h9 : ¬ nI (tp.getD i 0) = 32 := fun e => h7 ((nI_eq (b := 32) (by omega) (by omega)).mp e)
      have hl : Lk (lets (tp.take i)) := Lk_lets (mem_take_lets h1 h3) (by rw [List.length_take]; omega)
      rw [if_neg h9, ld_t (vp_in_nI (by omega) (by omega)), nI_clamp (by omega), t1, k_with hl (by rw [lets_len, List.length_take]; omega) h8, bd_t rfl, lt_b, nI_1, ← lets_snoc, ← take_snoc h5]
      have := ih (i + 1) (by omega) (by omega) (fun j hj => by
        by_cases q : j = i
        · subst q; exact h8
        · exact h3 j (by omega))
      rw [T.2.1] at this
      exact this
theorem k_take {N : Nat} (hN : 65536 ≤ N) {tp : List Nat} {tby : Nat → Int32} {tsz : Int32} {tape : Nat → Int32} {taped : Int32} (T : TR tp tby tsz tape taped) : F_X10_takeKey N tby tsz = some (@ite _ (tkey tp) (Classical.propDecidable _) (pk (lets tp)) 0, 0) := by
  unfold F_X10_takeKey
  rw [lt_b, T.2.1]
  have h60 := T.1
  by_cases h1 : tp.length ≤ 6
  · rw [if_pos (show nI tp.length ≤ 6 from nI_le (b := 6) h1 (by omega))]
    have := k_takeL N T h1 0 N 0 (Nat.zero_le _) (by omega) (fun j hj => by omega)
    rw [nI_0, T.2.1] at this
    refine this.trans ?_
    by_cases h2 : ∀ b ∈ tp, 97 ≤ b ∧ b ≤ 122
    · rw [if_pos h2]
      by_cases h3 : tp = []
      · rw [if_neg (fun q : tkey tp => q.1 h3), h3]; rfl
      · rw [if_pos (show tkey tp from ⟨h3, h1, h2⟩)]
    · rw [if_neg h2, if_neg (fun q : tkey tp => h2 q.2.2)]
  · rw [if_neg (show ¬ nI tp.length ≤ 6 from nI_ge (a := 6) (by omega) (by omega)), if_neg (fun q : tkey tp => h1 q.2.1)]

theorem k_in (x lo hi : Int32) : F_X12_in x lo hi = some (if lo ≤ x ∧ x ≤ hi then 1 else 0) := by
  unfold F_X12_in
  by_cases h1 : x < lo
  · rw [if_pos h1, if_neg (fun q => Int32.lt_irrefl (Int32.lt_of_lt_of_le h1 q.1))]
  · rw [if_neg h1]
    have h2 : lo ≤ x := Int32.not_lt.mp h1
    by_cases h3 : hi < x
    · rw [if_pos h3, if_neg (fun q => Int32.lt_irrefl (Int32.lt_of_lt_of_le h3 q.2))]
    · rw [if_neg h3, if_pos ⟨h2, Int32.not_lt.mp h3⟩]
def isL (b : Nat) : Bool := decide (97 ≤ b ∧ b ≤ 122)
/-- how many letters stand from a place on, six at most -/
def runL (l : List Nat) : Nat := ((l.takeWhile isL).take 6).length
theorem k_inL {b : Nat} (h : b < 256) : F_X12_in (nI b) 97 122 = some (if isL b then 1 else 0) := by
  rw [k_in]
  congr 1
  unfold isL
  by_cases q : 97 ≤ b ∧ b ≤ 122
  · rw [if_pos ⟨nI_le (a := 97) q.1 (by omega), nI_le (b := 122) q.2 (by omega)⟩]
    simp [q]
  · rw [if_neg]
    · simp [q]
    · intro z
      exact q ⟨(nI_leI (a := 97) (by omega) (by omega)).mp z.1, (nI_leI (b := 122) (by omega) (by omega)).mp z.2⟩
theorem rk_step {ks : List Nat} {b : Nat} (hb : 97 ≤ b ∧ b ≤ 122) : rk ks * 27 + nI b - 97 + 1 = rk ((b - 96) :: ks) := by
  unfold rk
  have e1 : nI (cd 27 ks) * 27 = nI (cd 27 ks * 27) := pk_mul (cd 27 ks) 27
  rw [e1, nI_add]
  have e2 : nI (cd 27 ks * 27 + b) - 97 = nI (cd 27 ks * 27 + b - 97) := pk_sub (a := cd 27 ks * 27 + b) (b := 97) (by omega)
  rw [e2, nI_1]
  show _ = nI (cd 27 ks * 27 + (b - 96))
  congr 1
  omega
theorem drop_getD {tp : List Nat} {i : Nat} (h : i < tp.length) : tp.drop i = tp.getD i 0 :: tp.drop (i + 1) := by
  rw [List.drop_eq_getElem_cons h, q_getD_lt h]
theorem k_keyAtL (N : Nat) {tp : List Nat} {tby : Nat → Int32} {tsz : Int32} {tape : Nat → Int32} {taped : Int32} (T : TR tp tby tsz tape taped) (fr : Nat) (k : Int32 → Int32 → Option (Int32 × Int32)) : ∀ (n j : Nat), fr + j ≤ tp.length + 1 → j ≤ 6 → 7 < n + j → L_X12_keyAt_7 N k (nI fr) tape taped n (rk (lets ((tp.drop fr).take j))) (nI (fr + j)) = k (rk (lets ((tp.drop fr).take (j + (((tp.drop (fr + j)).takeWhile isL).take (6 - j)).length)))) (nI (fr + j + (((tp.drop (fr + j)).takeWhile isL).take (6 - j)).length)) := by
  have h60 := T.1
  intro n
  induction n with
  | zero => intro j h1 h2 h3; omega
  | succ n ih =>
    intro j h1 h2 h3
    rw [e_X12_keyAt_7]
    unfold K_X12_keyAt_7
    rw [T.2.2.1]
    by_cases h4 : tp.length ≤ fr + j
    · have e1 : tp.drop (fr + j) = [] := List.drop_eq_nil_of_le h4
      rw [if_pos (nI_le h4 (by omega)), e1]
      simp
    have h5 : fr + j < tp.length := by omega
    obtain ⟨t1, t2, t3⟩ := T.2.2.2 (fr + j) h5
    have hb : tp.getD (fr + j) 0 < 256 := by omega
    rw [if_neg (nI_ge (by omega) (by omega)), ld_t (vp_in_nI (by omega) (by omega)), nI_clamp (by omega), t2, k_inL hb, bd_t rfl, drop_getD h5]
    cases hq : isL (tp.getD (fr + j) 0) with
    | false =>
      rw [List.takeWhile_cons, hq, if_pos (show (if false = true then (1 : Int32) else 0) = 0 by decide)]
      simp
    | true =>
      have hb2 : 97 ≤ tp.getD (fr + j) 0 ∧ tp.getD (fr + j) 0 ≤ 122 := of_decide_eq_true hq
      rw [if_neg (show ¬ ((if true = true then 1 else 0) = (0 : Int32)) by decide), pk_sub (by omega), show fr + j - fr = j by omega]
      by_cases h6 : j = 6
      · subst h6
        rw [if_pos (show (6 : Int32) ≤ nI 6 by decide)]
        simp
      · rw [if_neg (show ¬ (6 : Int32) ≤ nI j from nI_ge (b := 6) (by omega) (by omega)), ld_t (vp_in_nI (by omega) (by omega)), nI_clamp (by omega), t2, lt_b, lt_b, nI_1, rk_step hb2, ← lets_snoc]
        have e2 : (tp.drop fr).take j ++ [tp.getD (fr + j) 0] = (tp.drop fr).take (j + 1) := by
          have hl : j < (tp.drop fr).length := by rw [List.length_drop]; omega
          have e : (tp.drop fr).getD j 0 = tp.getD (fr + j) 0 := by rw [List.getD_eq_getElem?_getD, List.getD_eq_getElem?_getD, List.getElem?_drop]
          rw [take_snoc hl, e]
        have := ih (j + 1) (by omega) (by omega) (by omega)
        rw [T.2.2.1] at this
        rw [e2, show fr + j + 1 = fr + (j + 1) by omega, this]
        have e3 : 6 - j = (6 - (j + 1)) + 1 := by omega
        rw [List.takeWhile_cons, hq, e3]
        simp only [if_true, List.take_succ_cons, List.length_cons]
        generalize ((tp.drop (fr + (j + 1))).takeWhile isL).take (6 - (j + 1)) = Y
        rw [show j + (Y.length + 1) = j + 1 + Y.length by omega, show fr + j + (Y.length + 1) = fr + (j + 1) + Y.length by omega]
theorem k_keyAt {N : Nat} (hN : 65536 ≤ N) {tp : List Nat} {tby : Nat → Int32} {tsz : Int32} {tape : Nat → Int32} {taped : Int32} (T : TR tp tby tsz tape taped) (fr : Nat) (hf : fr ≤ tp.length + 1) (spot : Int32) : F_X12_keyAt N tape taped spot (nI fr) = some (rk (lets ((tp.drop fr).take (runL (tp.drop fr)))), nI (fr + runL (tp.drop fr))) := by
  unfold F_X12_keyAt
  rw [lt_b]
  have := k_keyAtL N T fr (fun x2 spot => some (x2, spot)) N 0 (by omega) (by omega) (by omega)
  rw [Nat.add_zero, List.take_zero, Nat.zero_add] at this
  exact this
theorem runL_le (l : List Nat) : runL l ≤ 6 ∧ runL l ≤ l.length := by
  unfold runL
  have h := (List.takeWhile_prefix (l := l) isL).length_le
  rw [List.length_take]
  omega
theorem tw_all {α : Type} {p : α → Bool} : ∀ {l : List α}, (∀ b ∈ l, p b = true) → l.takeWhile p = l
  | [], _ => rfl
  | x :: xs, h => by rw [List.takeWhile_cons, h x List.mem_cons_self, if_pos rfl, tw_all (fun b hb => h b (List.mem_cons_of_mem _ hb))]
theorem tw_mem {α : Type} {p : α → Bool} : ∀ {l : List α} {b : α}, b ∈ l.takeWhile p → p b = true
  | [], b, h => by simp at h
  | x :: xs, b, h => by
    rw [List.takeWhile_cons] at h
    cases hx : p x with
    | false => rw [hx] at h; simp at h
    | true =>
      rw [hx, if_pos rfl] at h
      rcases List.mem_cons.mp h with q | q
      · rw [q]; exact hx
      · exact tw_mem q
theorem runL_all {l : List Nat} (h : ∀ b ∈ l, 97 ≤ b ∧ b ≤ 122) (h6 : l.length ≤ 6) : runL l = l.length := by
  unfold runL
  have e1 : l.takeWhile isL = l := tw_all (fun b hb => decide_eq_true (h b hb))
  rw [e1, List.length_take]
  omega
theorem runL_mem (l : List Nat) : ∀ b ∈ l.take (runL l), 97 ≤ b ∧ b ≤ 122 := by
  intro b hb
  unfold runL at hb
  have hpre : l.takeWhile isL = l.take (l.takeWhile isL).length := List.prefix_iff_eq_take.mp (List.takeWhile_prefix isL)
  have h1 : b ∈ l.takeWhile isL := by
    rw [hpre]
    refine List.mem_of_mem_take (i := ((l.takeWhile isL).take 6).length) ?_
    rw [List.take_take]
    rw [show min ((l.takeWhile isL).take 6).length (l.takeWhile isL).length = ((l.takeWhile isL).take 6).length by rw [List.length_take]; omega]
    exact hb
  have h2 : isL b = true := tw_mem h1
  exact of_decide_eq_true h2
theorem k_takes {N : Nat} (hN : 65536 ≤ N) {tp : List Nat} {tby : Nat → Int32} {tsz : Int32} {tape : Nat → Int32} {taped : Int32} (T : TR tp tby tsz tape taped) (spot : Int32) : ∃ spot', F_X12_takesKey N tape taped spot = some (@ite _ (tkey tp) (Classical.propDecidable _) (rk (lets tp)) 0, 0, spot') := by
  have h60 := T.1
  unfold F_X12_takesKey
  have h1 := k_keyAt hN T 0 (by omega) spot
  rw [nI_0, List.drop_zero, Nat.zero_add] at h1
  rw [h1, bd_t rfl]
  dsimp only
  have hr := runL_le tp
  refine ⟨nI (runL tp), ?_⟩
  rw [T.2.2.1]
  by_cases h2 : runL tp = tp.length
  · rw [if_pos (by rw [h2])]
    unfold J_X12_takesKey_22
    rw [lt_b, if_neg (by decide), h2, List.take_length]
    by_cases h3 : tp = []
    · rw [if_neg (fun q : tkey tp => q.1 h3), h3]; rfl
    · have := runL_mem tp
      rw [h2, List.take_length] at this
      rw [if_pos (show tkey tp from ⟨h3, by omega, this⟩)]
  · rw [if_neg (fun e => h2 ((nI_eq (by omega) (by omega)).mp e))]
    unfold J_X12_takesKey_22
    rw [lt_b, if_pos rfl, if_neg (fun q : tkey tp => h2 (runL_all q.2.2 q.2.1))]
theorem tkey_KR {tp : List Nat} (h : tkey tp) : KR (pk (lets tp)) (rk (lets tp)) := ⟨lets tp, Lk_lets h.2.2 h.2.1, fun e => h.1 (by have := lets_len tp; rw [e] at this; exact List.eq_nil_of_length_eq_zero this.symm), rfl, rfl⟩
