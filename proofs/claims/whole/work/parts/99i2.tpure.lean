/-! ===== numbers as texts; the reference's text as one list ===== -/
def dgN : Nat → Nat → List Int32
  | 0, _ => []
  | k + 1, n => nI (48 + n / 10 ^ k % 10) :: dgN k n
def wd (n : Nat) : Nat := if n < 10 then 1 else if n < 100 then 2 else if n < 1000 then 3 else if n < 10000 then 4 else 5
def dg (n : Nat) : List Int32 := dgN (wd n) n
theorem dgN_len (k n : Nat) : (dgN k n).length = k := by
  induction k with
  | zero => rfl
  | succ k ih => show (dgN k n).length + 1 = k + 1; rw [ih]
theorem dgN_byte (k n : Nat) : ∀ b ∈ dgN k n, ∃ x, x < 128 ∧ b = nI x := by
  induction k with
  | zero => intro b hb; cases hb
  | succ k ih =>
    intro b hb
    rcases List.mem_cons.mp hb with rfl | hb
    · exact ⟨48 + n / 10 ^ k % 10, by omega, rfl⟩
    · exact ih b hb
theorem dgN_two (k n : Nat) : dgN (k + 2) n = dgN k (n / 100) ++ [nI (48 + n / 10 % 10), nI (48 + n % 10)] := by
  induction k with
  | zero =>
    show [nI (48 + n / 10 ^ 1 % 10), nI (48 + n / 10 ^ 0 % 10)] = _
    rw [Nat.pow_one, Nat.pow_zero, Nat.div_one]
    rfl
  | succ k ih =>
    show nI (48 + n / 10 ^ (k + 2) % 10) :: dgN (k + 2) n = (nI (48 + n / 100 / 10 ^ k % 10) :: dgN k (n / 100)) ++ _
    rw [ih, Nat.div_div_eq_div_mul, show 10 ^ (k + 2) = 100 * 10 ^ k by rw [Nat.pow_succ, Nat.pow_succ]; omega]
    rfl
theorem wd_bd (n : Nat) : 1 ≤ wd n ∧ wd n ≤ 5 := by
  unfold wd
  split
  · omega
  · split
    · omega
    · split
      · omega
      · split <;> omega
theorem wd_lt {n j : Nat} (h : j = 1 ∨ j = 2 ∨ j = 3 ∨ j = 4) : 10 ^ j ≤ n ↔ j < wd n := by
  unfold wd
  rcases h with rfl | rfl | rfl | rfl
  · rw [show (10 : Nat) ^ 1 = 10 from rfl]
    repeat' split
    all_goals omega
  · rw [show (10 : Nat) ^ 2 = 100 from rfl]
    repeat' split
    all_goals omega
  · rw [show (10 : Nat) ^ 3 = 1000 from rfl]
    repeat' split
    all_goals omega
  · rw [show (10 : Nat) ^ 4 = 10000 from rfl]
    repeat' split
    all_goals omega
theorem wd_100 {n : Nat} (h : 100 ≤ n) (h2 : n ≤ 99999) : wd n = wd (n / 100) + 2 := by
  unfold wd
  repeat' split
  all_goals omega
theorem ng_toInt {x : Nat} (h : x < 2 ^ 31) : (-(nI x)).toInt = -(x : Int) := by
  rw [Int32.toInt_neg, nI_toInt h]
  simp only [Int.bmod]
  omega
theorem ng_le {x c : Nat} (hx : x < 2 ^ 31) (hc : c < 2 ^ 31) : -(nI x) ≤ -(nI c) ↔ c ≤ x := by
  rw [Int32.le_iff_toInt_le, ng_toInt hx, ng_toInt hc]
  omega
theorem ng_lt {x c : Nat} (hx : x < 2 ^ 31) (hc : c < 2 ^ 31) : -(nI c) < -(nI x) ↔ x < c := by
  rw [Int32.lt_iff_toInt_lt, ng_toInt hx, ng_toInt hc]
  omega
theorem ng9 (x : Nat) (h : x < 2 ^ 31) : (-9 ≤ -(nI x)) ↔ x ≤ 9 := by
  rw [show (-9 : Int32) = -(nI 9) by decide, ng_le (by omega) h]
theorem ng100 (x : Nat) (h : x < 2 ^ 31) : (-100 < -(nI x)) ↔ x < 100 := by
  rw [show (-100 : Int32) = -(nI 100) by decide, ng_lt h (by omega)]
theorem ng_ng (x : Nat) : -(-(nI x)) = nI x := Int32.neg_neg
theorem ng_div {x : Nat} (hx : x < 2 ^ 31) : -(nI x) / 100 = -(nI (x / 100)) := by
  refine Int32.toInt_inj.mp ?_
  rw [ng_toInt (by omega), Int32.toInt_div, ng_toInt hx, show (100 : Int32).toInt = 100 from rfl, Int.neg_tdiv]
  rw [show (x : Int).tdiv 100 = ((x / 100 : Nat) : Int) from rfl]
  simp only [Int.bmod]
  omega
theorem ng_rem {x : Nat} (hx : x < 2 ^ 31) : -(nI (x / 100)) * 100 - -(nI x) = nI (x % 100) := by
  refine Int32.toInt_inj.mp ?_
  rw [Int32.toInt_sub, Int32.toInt_mul, ng_toInt (by omega), ng_toInt hx, nI_toInt (by omega), show (100 : Int32).toInt = 100 from rfl]
  simp only [Int.bmod]
  omega
theorem p10 : ∀ j, j < 5 → 10 * -(nI (10 ^ j)) = -(nI (10 ^ (j + 1))) ∧ nI (10 ^ j) * 10 = nI (10 ^ (j + 1)) ∧ nI (10 ^ (j + 1)) / 10 = nI (10 ^ j) ∧ ¬ nI (10 ^ j) = 0 ∧ ¬ nI (10 ^ j) ≤ 0 ∧ ¬ 10 ≤ nI (j + 1) := by decide +kernel
theorem ss_L {N x : Nat} (hx : x ≤ 99999) (k42 : Unit → Option Int32) (k27 : Int32 → Option Int32) : ∀ (n j : Nat), 1 ≤ j → j ≤ wd x → wd x < n + j → L_J6_stringSize_0f7a4_16 N k42 k27 (-(nI x)) 0 n (-(nI (10 ^ j))) (nI j) = k27 (nI (wd x)) := by
  have h5 := wd_bd x
  intro n
  induction n with
  | zero => intro j h1 h2 h3; omega
  | succ n ih =>
    intro j h1 h2 h3
    show K_J6_stringSize_0f7a4_16 N (L_J6_stringSize_0f7a4_16 N k42 k27 (-(nI x)) 0 n) k42 k27 (-(nI x)) 0 (-(nI (10 ^ j))) (nI j) = _
    unfold K_J6_stringSize_0f7a4_16
    have hj : 10 ^ j < 2 ^ 31 := Nat.lt_of_le_of_lt (Nat.pow_le_pow_right (by omega) (show j ≤ 5 by omega)) (by decide)
    obtain ⟨i, rfl⟩ : ∃ i, j = i + 1 := ⟨j - 1, by omega⟩
    rw [if_neg (p10 i (by omega)).2.2.2.2.2]
    by_cases hz : i + 1 = wd x
    · rw [if_neg, hz]
      rw [ng_le (by omega) hj]
      intro z
      by_cases h4 : i + 1 = 5
      · rw [h4] at z
        have : (10 : Nat) ^ 5 = 100000 := by decide
        omega
      · have := (wd_lt (n := x) (j := i + 1) (by omega)).mp z
        omega
    · rw [if_pos ((ng_le (by omega) hj).mpr ((wd_lt (by omega)).mpr (by omega))), lt_b, lt_b, (p10 (i + 1) (by omega)).1, nI_1]
      exact ih (i + 2) (by omega) (by omega) (by omega)
theorem ss_ok {N x : Nat} (hN : 65536 ≤ N) (hx : x ≤ 99999) : F_J6_stringSize_0f7a4 N (nI x) = some (nI (wd x)) := by
  have h5 := wd_bd x
  unfold F_J6_stringSize_0f7a4
  rw [if_neg (nI_pos (by omega)), lt_b]
  unfold J_J6_stringSize_0f7a4_11
  have := ss_L (N := N) hx (fun _ => some (10 + 0)) (fun x3 => some (x3 + 0)) N 1 (by omega) h5.1 (by omega)
  rw [Int32.add_zero (nI (wd x))] at this
  exact this
/-- what is written: the list, from place k on -/
def wr (f : Nat → Int32) (k : Nat) (ds : List Int32) : Nat → Int32 := fun i => if k ≤ i ∧ i < k + ds.length then ds.getD (i - k) 0 else f i
theorem wr_nil (f : Nat → Int32) (k : Nat) : wr f k [] = f := by
  funext i
  unfold wr
  rw [if_neg (by rw [List.length_nil]; omega)]
theorem wr_one (f : Nat → Int32) (k : Nat) (b : Int32) : upd f k b = wr f k [b] := by
  funext i
  unfold wr upd
  by_cases h : i = k
  · subst h
    rw [if_pos rfl, if_pos ⟨Nat.le_refl _, Nat.lt_succ_self _⟩, Nat.sub_self]
    rfl
  · rw [if_neg h, if_neg (by rw [List.length_singleton]; omega)]
theorem wr_app (f : Nat → Int32) (k : Nat) (as bs : List Int32) : wr (wr f k as) (k + as.length) bs = wr f k (as ++ bs) := by
  funext i
  unfold wr
  rw [List.length_append]
  by_cases h1 : k + as.length ≤ i ∧ i < k + as.length + bs.length
  · rw [if_pos h1, if_pos (by omega)]
    simp only [List.getD_eq_getElem?_getD]
    rw [List.getElem?_append_right (by omega), show i - (k + as.length) = i - k - as.length by omega]
  · rw [if_neg h1]
    by_cases h2 : k ≤ i ∧ i < k + as.length
    · rw [if_pos h2, if_pos (by omega)]
      simp only [List.getD_eq_getElem?_getD]
      rw [List.getElem?_append_left (by omega)]
    · rw [if_neg h2, if_neg (by omega)]
theorem wr_app' (f : Nat → Int32) (k : Nat) (as bs : List Int32) : wr (wr f (k + as.length) bs) k as = wr f k (as ++ bs) := by
  funext i
  unfold wr
  rw [List.length_append]
  by_cases h1 : k ≤ i ∧ i < k + as.length
  · rw [if_pos h1, if_pos (by omega)]
    simp only [List.getD_eq_getElem?_getD]
    rw [List.getElem?_append_left (by omega)]
  · rw [if_neg h1]
    by_cases h2 : k + as.length ≤ i ∧ i < k + as.length + bs.length
    · rw [if_pos h2, if_pos (by omega)]
      simp only [List.getD_eq_getElem?_getD]
      rw [List.getElem?_append_right (by omega), show i - (k + as.length) = i - k - as.length by omega]
    · rw [if_neg h2, if_neg (by omega)]
theorem wr_two (f : Nat → Int32) (k : Nat) (a b : Int32) : upd (upd f (k + 1) b) k a = wr f k [a, b] := by
  rw [wr_one, wr_one]
  exact wr_app' f k [a] [b]
theorem sto_nI {β : Type} {f : Nat → Int32} {cap k : Nat} {x : Int32} {b : (Nat → Int32) → Option β} (h : k < cap) (hc : cap < 2 ^ 31) : sto f cap (nI k) x b = b (upd f k x) := by
  rw [sto_t (vp_in_nI h hc), nI_clamp (by omega)]
theorem ld_nI {β : Type} {f : Nat → Int32} {cap k : Nat} {b : Int32 → Option β} (h : k < cap) (hc : cap < 2 ^ 31) : ld f cap (nI k) b = b (f k) := by
  rw [ld_t (vp_in_nI h hc), nI_clamp (by omega)]
theorem z_one {j : Nat} (h : j < 100) : vp_nar .byte (zOnes j) = nI (48 + j % 10) := (sb_bytes (48 + j % 10) (by omega)).2.1
theorem z_ten {j : Nat} (h : j < 100) : vp_nar .byte (zTens j) = nI (48 + j / 10) := (sb_bytes (48 + j / 10) (by omega)).2.1
noncomputable def gcK (N cap : Nat) : Int32 → Int32 → (Nat → Int32) → Option (Int32 × (Nat → Int32)) := fun x0 x5 f2 => lt (x5 + (-1)) (fun x5_18 =>
  ld zOnes 100 (-x0) (fun v_19 =>
  sto f2 cap x5_18 (vp_nar .byte v_19) (fun f2_20 =>
  if (((-9)) ≤ x0 : Prop) then
  J_J6_getChars_ba4f3_104 N cap x5_18 0 f2_20
  else
  lt (x5_18 + (-1)) (fun x5_21 =>
  ld zTens 100 (-x0) (fun v_22 =>
  sto f2_20 cap x5_21 (vp_nar .byte v_22) (fun f2_23 =>
  J_J6_getChars_ba4f3_104 N cap x5_21 0 f2_23))))))
theorem gc_base {N cap x p : Nat} (hx : x < 100) (hc : cap ≤ 34) (hp : p + wd x ≤ cap) (f : Nat → Int32) : ∃ r, gcK N cap (-(nI x)) (nI (p + wd x)) f = some (r, wr f p (dg x)) := by
  unfold gcK
  by_cases h : x < 10
  · have hw : wd x = 1 := by unfold wd; rw [if_pos h]
    have hd : dg x = [nI (48 + x % 10)] := by
      unfold dg
      rw [hw]
      show [nI (48 + x / 10 ^ 0 % 10)] = _
      rw [Nat.pow_zero, Nat.div_one]
    rw [hw] at hp ⊢
    rw [lt_b, pk_m1, ng_ng, ld_nI hx (by decide), sto_nI (by omega) (by omega), z_one hx, if_pos ((ng9 x (by omega)).mpr (by omega))]
    exact ⟨nI p, by rw [hd, ← wr_one]; rfl⟩
  · have hw : wd x = 2 := by unfold wd; rw [if_neg h, if_pos hx]
    have hd : dg x = [nI (48 + x / 10), nI (48 + x % 10)] := by
      unfold dg
      rw [hw]
      show [nI (48 + x / 10 ^ 1 % 10), nI (48 + x / 10 ^ 0 % 10)] = _
      rw [Nat.pow_one, Nat.pow_zero, Nat.div_one, Nat.mod_eq_of_lt (show x / 10 < 10 by omega)]
    rw [hw] at hp ⊢
    rw [lt_b, show p + 2 = (p + 1) + 1 from rfl, pk_m1, ng_ng, ld_nI hx (by decide), sto_nI (by omega) (by omega), z_one hx, if_neg (fun z => by have := (ng9 x (by omega)).mp z; omega), lt_b, pk_m1, ld_nI hx (by decide), sto_nI (by omega) (by omega), z_ten hx]
    exact ⟨nI p, by rw [hd, ← wr_two]; rfl⟩
theorem gc_L {N cap : Nat} (hc : cap ≤ 34) : ∀ (n x p : Nat) (f : Nat → Int32), x ≤ 99999 → x < 100 ^ n → 1 ≤ n → p + wd x ≤ cap → ∃ r, L_J6_getChars_ba4f3_22 N cap (gcK N cap) 0 n (-(nI x)) (nI (p + wd x)) f = some (r, wr f p (dg x)) := by
  intro n
  induction n with
  | zero => intro x p f hx hn h1 hp; omega
  | succ n ih =>
    intro x p f hx hn h1 hp
    show ∃ r, K_J6_getChars_ba4f3_22 N cap (L_J6_getChars_ba4f3_22 N cap (gcK N cap) 0 n) (gcK N cap) 0 (-(nI x)) (nI (p + wd x)) f = _
    unfold K_J6_getChars_ba4f3_22
    by_cases h : x < 100
    · rw [if_pos ((ng100 x (by omega)).mpr h)]
      exact gc_base h hc hp f
    · rw [if_neg (fun z => h ((ng100 x (by omega)).mp z)), lt_b, lt_b, lt_b, ng_div (by omega), ng_rem (by omega)]
      have hw := wd_100 (n := x) (by omega) hx
      have hd : dg x = dg (x / 100) ++ [nI (48 + x / 10 % 10), nI (48 + x % 10)] := by
        unfold dg
        rw [hw, dgN_two]
      rw [hw] at hp ⊢
      rw [show p + (wd (x / 100) + 2) = (p + wd (x / 100) + 1) + 1 from rfl, pk_m1, ld_nI (show x % 100 < 100 by omega) (by decide), sto_nI (by omega) (by omega), lt_b, pk_m1, ld_nI (show x % 100 < 100 by omega) (by decide), sto_nI (by omega) (by omega), z_one (by omega), z_ten (by omega), wr_two]
      have hn1 : 1 ≤ n := by
        rcases n with _ | n
        · rw [Nat.pow_one] at hn
          omega
        · omega
      obtain ⟨r, hr⟩ := ih (x / 100) p (wr f (p + wd (x / 100)) [nI (48 + x % 100 / 10), nI (48 + x % 100 % 10)]) (by omega) (by rw [Nat.pow_succ] at hn; omega) hn1 (by omega)
      refine ⟨r, ?_⟩
      rw [hr, hd, ← wr_app', show (dg (x / 100)).length = wd (x / 100) from dgN_len _ _, show x % 100 / 10 = x / 10 % 10 by omega, show x % 100 % 10 = x % 10 by omega]
theorem gc_ok {N cap x p : Nat} (hN : 65536 ≤ N) (hx : x ≤ 99999) (hc : cap ≤ 34) (hp : p + wd x ≤ cap) (f : Nat → Int32) : ∃ r, F_J6_getChars_ba4f3 N cap f (nI x) (nI (p + wd x)) = some (r, wr f p (dg x)) := by
  unfold F_J6_getChars_ba4f3 J_J6_getChars_ba4f3_12
  rw [if_pos (nI_pos' (by omega)), if_pos rfl, lt_b]
  have h3 : (100 : Nat) ^ 3 = 1000000 := by decide
  exact gc_L hc N x p f hx (Nat.lt_of_lt_of_le (show x < 100 ^ 3 by omega) (Nat.pow_le_pow_right (by omega) (by omega))) (by omega) hp
theorem num_ok {N x : Nat} (hN : 65536 ≤ N) (hx : x ≤ 99999) : NumOK N x (dg x) := by
  have hl : (dg x).length = wd x := dgN_len _ _
  refine ⟨by rw [hl]; exact ss_ok hN hx, fun cap k f h1 h2 => ?_, fun j hj => ?_⟩
  · rw [hl] at h1 ⊢
    obtain ⟨r, hr⟩ := gc_ok hN hx h2 h1 f
    refine ⟨r, _, hr, fun i => ?_⟩
    unfold wr
    rw [hl]
  · obtain ⟨b, hb, e⟩ := dgN_byte (wd x) x ((dg x).getD j 0) (by rw [List.getD_eq_getElem?_getD, List.getElem?_eq_getElem hj]; exact List.getElem_mem hj)
    rw [e]
    exact (sb_bytes b hb).2.2.1
/-! the reference -/
theorem bd_bd {α β γ : Type} (x : Option α) (f : α → Option β) (g : β → Option γ) : bd (bd x f) g = bd x (fun y => bd (f y) g) := by
  cases x <;> rfl
theorem pw_app : ∀ (as bs : List Int32) (f : Nat → Int32) (k : Int32), F_pw (as ++ bs) f k = bd (F_pw as f k) (fun o => F_pw bs o.1 o.2)
  | [], bs, f, k => rfl
  | a :: as, bs, f, k => by
    show bd (F_X12_puts f k a) (fun o => F_pw (as ++ bs) o.1 o.2) = bd (bd (F_X12_puts f k a) (fun o => F_pw as o.1 o.2)) _
    rw [bd_bd]
    congr 1
    funext o
    exact pw_app as bs o.1 o.2
theorem puts_ok {f : Nat → Int32} {k : Nat} (b : Int32) (h : k < 40) : F_X12_puts f (nI k) b = some (wr f k [b], nI (k + 1)) := by
  unfold F_X12_puts
  rw [sto_nI h (by decide), lt_b, nI_1, wr_one]
theorem pw_ok : ∀ (bs : List Int32) (f : Nat → Int32) (k : Nat), k + bs.length ≤ 40 → F_pw bs f (nI k) = some (wr f k bs, nI (k + bs.length))
  | [], f, k, _ => by rw [wr_nil]; rfl
  | b :: bs, f, k, h => by
    rw [List.length_cons] at h
    show bd (F_X12_puts f (nI k) b) (fun o => F_pw bs o.1 o.2) = _
    rw [puts_ok b (by omega), bd_some]
    show F_pw bs (wr f k [b]) (nI (k + 1)) = _
    rw [pw_ok bs _ (k + 1) (by omega), List.length_cons]
    have := wr_app f k [b] bs
    rw [show k + [b].length = k + 1 from rfl] at this
    rw [this, show k + 1 + bs.length = k + (bs.length + 1) by omega]
    rfl
theorem pn_18 {N x : Nat} (hx : x ≤ 99999) : ∀ (n j : Nat) (f : Nat → Int32) (k : Int32), j < 5 → j + 1 < n → L_X12_putsNumber_18 N (fun written writtenMany => some (written, writtenMany)) (nI x) n (nI (10 ^ j)) f k = F_pw (dgN (j + 1) x) f k := by
  intro n
  induction n with
  | zero => intro j f k h1 h2; omega
  | succ n ih =>
    intro j f k h1 h2
    show K_X12_putsNumber_18 N (L_X12_putsNumber_18 N (fun written writtenMany => some (written, writtenMany)) (nI x) n) (fun written writtenMany => some (written, writtenMany)) (nI x) (nI (10 ^ j)) f k = _
    unfold K_X12_putsNumber_18
    have hp : 0 < 10 ^ j := Nat.pow_pos (by omega)
    have hj : 10 ^ j < 2 ^ 31 := Nat.lt_of_le_of_lt (Nat.pow_le_pow_right (by omega) (show j ≤ 5 by omega)) (by decide)
    have hq : x / 10 ^ j < 2 ^ 31 := Nat.lt_of_le_of_lt (Nat.div_le_self _ _) (by omega)
    rw [if_neg (p10 j h1).2.2.2.2.1, ck_t (p10 j h1).2.2.2.1, pk_div (by omega) hp hj]
    have er : irm (nI (x / 10 ^ j)) 10 = nI (x / 10 ^ j % 10) := pk_rem (d := 10) hq (by omega) (by omega)
    rw [er, show (48 : Int32) + nI (x / 10 ^ j % 10) = nI (48 + x / 10 ^ j % 10) from nI_add 48 _]
    show _ = bd (F_X12_puts f k (nI (48 + x / 10 ^ j % 10))) (fun o => F_pw (dgN j x) o.1 o.2)
    congr 1
    funext o
    rw [lt_b]
    rcases j with _ | j
    · rcases n with _ | n
      · omega
      · show K_X12_putsNumber_18 N (L_X12_putsNumber_18 N (fun written writtenMany => some (written, writtenMany)) (nI x) n) (fun written writtenMany => some (written, writtenMany)) (nI x) (nI (10 ^ 0) / 10) o.1 o.2 = some (o.1, o.2)
        unfold K_X12_putsNumber_18
        rw [if_pos (by decide)]
    · rw [(p10 j (by omega)).2.2.1]
      exact ih j o.1 o.2 (by omega) (by omega)
theorem pn_2 {N x : Nat} (hx : x ≤ 99999) (f : Nat → Int32) (k : Int32) (kk : Int32 → Option ((Nat → Int32) × Int32)) : ∀ (n j : Nat), j < wd x → wd x ≤ n + j → L_X12_putsNumber_2 N kk (nI x) f k n (nI (10 ^ j)) = kk (nI (10 ^ (wd x - 1))) := by
  have h5 := wd_bd x
  intro n
  induction n with
  | zero => intro j h1 h2; omega
  | succ n ih =>
    intro j h1 h2
    show K_X12_putsNumber_2 N (L_X12_putsNumber_2 N kk (nI x) f k n) kk (nI x) f k (nI (10 ^ j)) = _
    unfold K_X12_putsNumber_2
    have hp : 0 < 10 ^ j := Nat.pow_pos (by omega)
    have hj : 10 ^ j < 2 ^ 31 := Nat.lt_of_le_of_lt (Nat.pow_le_pow_right (by omega) (show j ≤ 5 by omega)) (by decide)
    have hq : x / 10 ^ j < 2 ^ 31 := Nat.lt_of_le_of_lt (Nat.div_le_self _ _) (by omega)
    rw [ck_t (p10 j (by omega)).2.2.2.1, pk_div (by omega) hp hj]
    have hc : nI (x / 10 ^ j) < 10 ↔ x < 10 ^ (j + 1) := by
      rw [show (10 : Int32) = nI 10 from rfl, nI_ltI hq (by omega), Nat.div_lt_iff_lt_mul hp, Nat.pow_succ, Nat.mul_comm]
    by_cases hz : j + 1 = wd x
    · rw [if_pos, ← hz]
      · rfl
      · rw [hc]
        by_cases h4 : j + 1 = 5
        · rw [h4]
          have : (10 : Nat) ^ 5 = 100000 := by decide
          omega
        · refine Nat.lt_of_not_le (fun z => ?_)
          have := (wd_lt (n := x) (j := j + 1) (by omega)).mp z
          omega
    · rw [if_neg, lt_b, (p10 j (by omega)).2.1]
      · exact ih (j + 1) (by omega) (by omega)
      · rw [hc]
        have := (wd_lt (n := x) (j := j + 1) (by omega)).mpr (by omega)
        omega
theorem pn_ok {N x : Nat} (hN : 65536 ≤ N) (hx : x ≤ 99999) (f : Nat → Int32) (k : Int32) : F_X12_putsNumber N f k (nI x) = F_pw (dg x) f k := by
  have h5 := wd_bd x
  unfold F_X12_putsNumber
  have := pn_2 (N := N) hx f k (fun x2 => L_X12_putsNumber_18 N (fun written writtenMany => some (written, writtenMany)) (nI x) N x2 f k) N 0 (by omega) (by omega)
  refine this.trans ?_
  rw [pn_18 hx N (wd x - 1) f k (by omega) (by omega), show wd x - 1 + 1 = wd x by omega]
  rfl
theorem kl_dr (lt : Nat → Nat) : ∀ (r i : Nat), (List.range' i (r + 1)).map (fun j => nI (lt j)) = nI (lt i) :: (List.range' (i + 1) r).map (fun j => nI (lt j)) := by
  intro r i
  rw [List.range'_succ, List.map_cons]
theorem tx_46 {N : Nat} {g : Nat → Int32} {x2 x3 : Int32} {m : Nat} (hm : m < 2 ^ 31) (lt : Nat → Nat) {q : Int32} (ha : F_X12_at g x3 0 = some q) (hb : ∀ i, i < m → F_X12_byteOf N q (nI i) = some (nI (lt i))) (k74 : (Nat → Int32) → Int32 → Option (Int32 × (Nat → Int32) × Int32)) : ∀ (r n i : Nat) (f : Nat → Int32) (k : Int32), i + r = m → r < n → L_X12_text_46 N k74 x2 x3 (nI m) g n (nI i) f k = bd (F_pw ((List.range' i r).map (fun j => nI (lt j))) f k) (fun o => k74 o.1 o.2) := by
  intro r
  induction r with
  | zero =>
    intro n i f k h1 h2
    obtain ⟨n, rfl⟩ : ∃ z, n = z + 1 := ⟨n - 1, by omega⟩
    show K_X12_text_46 N (L_X12_text_46 N k74 x2 x3 (nI m) g n) k74 x2 x3 (nI m) g (nI i) f k = _
    unfold K_X12_text_46
    rw [if_pos (nI_le (by omega) (by omega))]
    rfl
  | succ r ih =>
    intro n i f k h1 h2
    obtain ⟨n, rfl⟩ : ∃ z, n = z + 1 := ⟨n - 1, by omega⟩
    show K_X12_text_46 N (L_X12_text_46 N k74 x2 x3 (nI m) g n) k74 x2 x3 (nI m) g (nI i) f k = _
    unfold K_X12_text_46
    rw [if_neg (nI_ge (by omega) hm), ha, bd_some, hb i (by omega), bd_some, kl_dr]
    show _ = bd (bd (F_X12_puts f k (nI (lt i))) (fun o => F_pw ((List.range' (i + 1) r).map (fun j => nI (lt j))) o.1 o.2)) _
    rw [bd_bd]
    congr 1
    funext o
    rw [lt_b, nI_1]
    exact ih n (i + 1) o.1 o.2 (by omega) (by omega)
theorem st_app {w : Nat → Int32} {B : List Int32} (ds : List Int32) (h : B.length + ds.length ≤ 40) : F_pw ds (wr w 0 B) (nI B.length) = some (wr w 0 (B ++ ds), nI (B ++ ds).length) := by
  rw [pw_ok ds _ B.length h, List.length_append]
  have := wr_app w 0 B ds
  rw [Nat.zero_add] at this
  rw [this]
theorem st_put {w : Nat → Int32} {B : List Int32} (b : Int32) (h : B.length < 40) : F_X12_puts (wr w 0 B) (nI B.length) b = some (wr w 0 (B ++ [b]), nI (B ++ [b]).length) := by
  rw [puts_ok b h, List.length_append]
  have := wr_app w 0 B [b]
  rw [Nat.zero_add] at this
  rw [this]
  rfl
/-- what text answers of a text -/
def tR (y : Int32) (bs : List Int32) : Int32 := if y = -1 then nI bs.length else if y < nI bs.length then bs.getD y.toNatClampNeg 0 else -1003
/-- what the class's side needs to be told -/
def TXC (N : Nat) (vals : Nat → Int32) (now : Int32) (ents : Rows) (x y r : Int32) : Prop :=
  (x < 0 ∧ r = -1001) ∨ (¬ x < 0 ∧ ¬ -1 ≤ y ∧ r = -1001) ∨ (¬ x < 0 ∧ -1 ≤ y ∧ F_X0_nthToGo N 200 vals now ents x = some (-1) ∧ r = -1003) ∨
  (¬ x < 0 ∧ -1 ≤ y ∧ ∃ (e n v wt ct : Nat) (lt : Nat → Nat) (od os : Int32), e < 200 ∧ F_X0_nthToGo N 200 vals now ents x = some (nI e) ∧ n ≤ 6 ∧ (∀ i, i < n → lt i < 128) ∧ F_X1_length N (tget ents (nI e) 7) = some (nI n) ∧ (∀ i, i < n → F_X1_byteAt N (tget ents (nI e) 7) (nI i) = some (nI (lt i))) ∧ tget ents (nI e) 0 = nI v ∧ tget ents (nI e) 1 = nI wt ∧ tget ents (nI e) 3 = nI ct ∧ v ≤ 99999 ∧ wt ≤ 20 ∧ ct ≤ 999 ∧ F_X0_isDirty 200 ents (nI e) = some od ∧ F_X0_isStale 200 vals now ents (nI e) = some os ∧ r = tR y (tX lt n (dg v) (dg wt) (dg ct) od os))
theorem wd2 {n : Nat} (h : n ≤ 20) : wd n ≤ 2 := by
  unfold wd
  split
  · omega
  · rw [if_pos (by omega)]
    omega
theorem wd3 {n : Nat} (h : n ≤ 999) : wd n ≤ 3 := by
  unfold wd
  split
  · omega
  · split
    · omega
    · rw [if_pos (by omega)]
      omega
theorem dg_len (n : Nat) : (dg n).length = wd n := dgN_len _ _
theorem tB_len (lt : Nat → Nat) (n v wt ct : Nat) : (tB lt n (dg v) (dg wt) (dg ct)).length = n + 5 + wd v + wd wt + wd ct := by
  unfold tB
  simp only [List.length_append, kl_len, dg_len, List.length_singleton]
  rw [show (sByt.getD 0 []).length = 2 from rfl, show (sByt.getD 1 []).length = 2 from rfl]
  omega
theorem tX_len (lt : Nat → Nat) (n v wt ct : Nat) (od os : Int32) : (tX lt n (dg v) (dg wt) (dg ct) od os).length ≤ n + 17 + wd v + wd wt + wd ct := by
  unfold tX
  simp only [List.length_append, tB_len]
  have l2 : (sByt.getD 2 []).length = 6 := rfl
  have l3 : (sByt.getD 3 []).length = 6 := rfl
  split <;> split <;> simp only [List.length_nil, l2, l3] <;> omega
/-- the reference's last words -/
noncomputable def tFin (x2 : Int32) (o : (Nat → Int32) × Int32) : Option (Int32 × (Nat → Int32) × Int32) := if (0 ≤ x2 : Prop) then if (o.2 ≤ x2 : Prop) then some ((-1003), o.1, o.2) else ld o.1 40 x2 (fun v_22 => some (v_22, o.1, o.2)) else some (o.2, o.1, o.2)
theorem fin_ok {w : Nat → Int32} {bs : List Int32} {y : Int32} (hl : bs.length ≤ 40) (hy : -1 ≤ y) : tFin y (wr w 0 bs, nI bs.length) = some (tR y bs, wr w 0 bs, nI bs.length) := by
  unfold tFin tR
  by_cases h0 : 0 ≤ y
  · have hne : ¬ y = -1 := fun z => by subst z; exact absurd h0 (by decide)
    rw [if_pos h0, if_neg hne]
    have h0' : (0 : Int) ≤ y.toInt := Int32.le_iff_toInt_le.mp h0
    have ey : y = nI y.toInt.toNat := by
      refine Int32.toInt_inj.mp ?_
      have : y.toInt < 2 ^ 31 := Int32.toInt_lt y
      rw [nI_toInt (by omega)]
      omega
    by_cases h1 : nI bs.length ≤ y
    · rw [if_pos h1, if_neg (Int32.not_lt.mpr h1)]
    · rw [if_neg h1, if_pos (Int32.not_le.mp h1)]
      have hj : y.toInt.toNat < bs.length := by
        have h2 := Int32.lt_iff_toInt_lt.mp (Int32.not_le.mp h1)
        rw [nI_toInt (by omega)] at h2
        omega
      generalize y.toInt.toNat = j at ey hj
      subst ey
      rw [ld_nI (by omega) (by decide), nI_clamp (by omega)]
      show some (wr w 0 bs j, _, _) = _
      unfold wr
      rw [if_pos ⟨Nat.zero_le _, by omega⟩]
      rfl
  · have : y = -1 := by
      have h2 := Int32.lt_iff_toInt_lt.mp (Int32.not_le.mp h0)
      have h3 := Int32.le_iff_toInt_le.mp hy
      refine Int32.toInt_inj.mp ?_
      rw [show (-1 : Int32).toInt = -1 from rfl] at h3 ⊢
      rw [show (0 : Int32).toInt = 0 from rfl] at h2
      omega
    rw [if_neg h0, if_pos this]
theorem s_text {N : Nat} (hN : 65536 ≤ N) {g : Nat → Int32} {w : Nat → Int32} {wm x y : Int32} (hx : ¬ x < 0) (hy : -1 ≤ y) {e n v wt ct : Nat} (he : e < 200) (hv : v ≤ 99999) (hw : wt ≤ 20) (hc : ct ≤ 999) (hn : n ≤ 6) {lt : Nat → Nat} {q od os : Int32}
    (hg : F_X12_goingAt N g x = some (nI e)) (h0 : F_X12_at g (nI e) 0 = some q) (hs : F_X12_sizeOf N q = some (nI n)) (hb : ∀ i, i < n → F_X12_byteOf N q (nI i) = some (nI (lt i))) (h1 : F_X12_at g (nI e) 1 = some (nI v)) (h2 : F_X12_at g (nI e) 2 = some (nI wt)) (h5 : F_X12_at g (nI e) 5 = some (nI ct)) (h8 : F_X12_at g (nI e) 8 = some od) (hst : F_X12_isStale g (nI e) = some os) :
    F_X12_text N g w wm x y = some (tR y (tX lt n (dg v) (dg wt) (dg ct) od os), wr w 0 (tX lt n (dg v) (dg wt) (dg ct) od os), nI (tX lt n (dg v) (dg wt) (dg ct) od os).length) := by
  have b1 := wd_bd v
  have b2 := wd2 hw
  have b3 := wd3 hc
  have hL := tX_len lt n v wt ct od os
  have l0 : (sByt.getD 0 []).length = 2 := rfl
  have l1 : (sByt.getD 1 []).length = 2 := rfl
  have l2 : (sByt.getD 2 []).length = 6 := rfl
  have l3 : (sByt.getD 3 []).length = 6 := rfl
  have hw4 : ∀ B : List Int32, F_X12_putsWord (wr w 0 B) (nI B.length) 4 = some (wr w 0 B, nI B.length) := fun B => rfl
  unfold F_X12_text
  rw [if_neg hx, if_pos hy, hg, bd_some, if_pos (nI_pos' (by omega)), lt_b, h0, bd_some, hs, bd_some]
  have t := tx_46 (N := N) (x2 := y) (m := n) (by omega) lt h0 hb
  refine Eq.trans (t _ n N 0 w 0 (Nat.zero_add n) (by omega)) ?_
  have ek : (List.range' 0 n).map (fun j => nI (lt j)) = kl lt n := by unfold kl; rw [List.range_eq_range']
  have e1 : F_pw (kl lt n) w 0 = some (wr w 0 (kl lt n), nI (kl lt n).length) := by
    show F_pw (kl lt n) w (nI 0) = _
    rw [pw_ok _ _ _ (by rw [kl_len]; omega), Nat.zero_add]
  rw [ek, e1, bd_some]
  dsimp only
  have lk := kl_len lt n
  have eB : tB lt n (dg v) (dg wt) (dg ct) = ((((((kl lt n ++ [nI 32]) ++ dg v) ++ sByt.getD 0 []) ++ dg wt) ++ sByt.getD 1 []) ++ dg ct) := rfl
  rw [show (32 : Int32) = nI 32 from rfl, st_put (nI 32) (by omega), bd_some, h1, bd_some]
  dsimp only
  rw [pn_ok hN hv, st_app (dg v) (by simp only [List.length_append, dg_len, lk, List.length_singleton]; omega), bd_some]
  dsimp only
  unfold F_X12_putsWord
  rw [st_app (sByt.getD 0 []) (by simp only [List.length_append, dg_len, lk, l0, List.length_singleton]; omega), bd_some, h2, bd_some]
  dsimp only
  rw [pn_ok hN (by omega), st_app (dg wt) (by simp only [List.length_append, dg_len, lk, l0, List.length_singleton]; omega), bd_some]
  dsimp only
  rw [st_app (sByt.getD 1 []) (by simp only [List.length_append, dg_len, lk, l0, l1, List.length_singleton]; omega), bd_some, h5, bd_some]
  dsimp only
  rw [pn_ok hN (by omega), st_app (dg ct) (by simp only [List.length_append, dg_len, lk, l0, l1, List.length_singleton]; omega), bd_some, h8, bd_some]
  dsimp only
  rw [← eB]
  have lB := tB_len lt n v wt ct
  have z4 : ∀ B : List Int32, F_pw (sByt.getD 4 []) (wr w 0 B) (nI B.length) = some (wr w 0 B, nI B.length) := fun B => rfl
  have fin := fin_ok (w := w) (bs := tX lt n (dg v) (dg wt) (dg ct) od os) (y := y) (by omega) hy
  unfold tFin at fin
  dsimp only at fin
  by_cases d0 : od = 0
  · rw [if_pos d0, z4, bd_some, hst, bd_some]
    by_cases s0 : os = 0
    · have eX : tX lt n (dg v) (dg wt) (dg ct) od os = tB lt n (dg v) (dg wt) (dg ct) := by
        unfold tX
        rw [if_pos d0, if_pos s0, List.append_nil, List.append_nil]
      rw [eX] at fin ⊢
      rw [if_pos s0, z4, bd_some]
      exact fin
    · have eX : tX lt n (dg v) (dg wt) (dg ct) od os = tB lt n (dg v) (dg wt) (dg ct) ++ sByt.getD 3 [] := by
        unfold tX
        rw [if_pos d0, if_neg s0, List.append_nil]
      rw [eX] at fin ⊢
      rw [if_neg s0, st_app (sByt.getD 3 []) (by omega), bd_some]
      exact fin
  · rw [if_neg d0, st_app (sByt.getD 2 []) (by omega), bd_some, hst, bd_some]
    by_cases s0 : os = 0
    · have eX : tX lt n (dg v) (dg wt) (dg ct) od os = tB lt n (dg v) (dg wt) (dg ct) ++ sByt.getD 2 [] := by
        unfold tX
        rw [if_neg d0, if_pos s0, List.append_nil]
      rw [eX] at fin ⊢
      rw [if_pos s0, z4, bd_some]
      exact fin
    · have eX : tX lt n (dg v) (dg wt) (dg ct) od os = (tB lt n (dg v) (dg wt) (dg ct) ++ sByt.getD 2 []) ++ sByt.getD 3 [] := by
        unfold tX
        rw [if_neg d0, if_neg s0]
      rw [eX] at fin ⊢
      rw [if_neg s0]
      dsimp only
      rw [st_app (sByt.getD 3 []) (by rw [List.length_append]; omega), bd_some]
      exact fin
theorem tX_od {lt : Nat → Nat} {n : Nat} {dv dw dc : List Int32} {od od' os : Int32} (h : od = 0 ↔ od' = 0) : tX lt n dv dw dc od os = tX lt n dv dw dc od' os := by
  unfold tX
  by_cases z : od = 0
  · rw [if_pos z, if_pos (h.mp z)]
  · rw [if_neg z, if_neg (fun y => z (h.mpr y))]
theorem m_text {N : Nat} (hN : 65536 ≤ N) {c : Nat} {tp : List Nat} {T : Nat → Rows} {V : Nat → Nat → Int32} {g : Nat → Int32} (hs : SQ c tp T V g) (w : Nat → Int32) (wm x y : Int32) : ∃ (r : Int32) (w' : Nat → Int32) (wm' : Int32), F_X12_text N g w wm x y = some (r, w', wm') ∧ TXC N (V 0) (V 4 0) (T 4) x y r := by
  obtain ⟨p, q, h, hI, hB, hq⟩ := hs
  have h200 := h.e.2
  by_cases h1 : x < 0
  · exact ⟨-1001, w, wm, by unfold F_X12_text; rw [if_pos h1], Or.inl ⟨h1, rfl⟩⟩
  by_cases h2 : -1 ≤ y
  · rcases both_nth hN h hI h1 with ⟨a1, a2⟩ | ⟨e, he, a1, a2⟩
    · exact ⟨-1003, w, wm, by unfold F_X12_text; rw [if_neg h1, if_pos h2, a2, bd_some, if_neg (by decide)], Or.inr (Or.inr (Or.inl ⟨h1, h2, a1, rfl⟩))⟩
    · obtain ⟨-, ⟨hk, ⟨wt, w1, w2, ew⟩, ⟨v, v1, ev⟩, -⟩, ct, c1, ec⟩ := hI.i0.1.at he
      obtain ⟨kq, ks, k1, k2, ek, rfl⟩ := hk
      have eq0 : kc (cl (rw' (T 4) e) 7) = rk ks := kc_eq ⟨ks, k1, k2, ek, rfl⟩
      have k6 := k1.2
      have hlt : ∀ i, i < ks.length → ks.getD (ks.length - 1 - i) 0 + 96 < 128 := fun i hi => by
        have hj : ks.length - 1 - i < ks.length := by omega
        rw [List.getD_eq_getElem?_getD, List.getElem?_eq_getElem hj]
        have := (k1.1 _ (List.getElem_mem hj)).2
        show ks[ks.length - 1 - i] + 96 < 128
        omega
      have g7 : tget (T 4) (nI e) 7 = pk ks := (tg e 7 7 rfl (by omega) (by decide)).trans ek
      have st := s_text (w := w) (wm := wm) (x := x) (y := y) hN h1 h2 (e := e) (n := ks.length) (v := v) (wt := wt) (ct := ct) (lt := fun i => ks.getD (ks.length - 1 - i) 0 + 96) (q := rk ks) (od := cl (rw' (T 4) e) 8) (os := stI (V 0) (V 4 0) (cl (rw' (T 4) e) 6)) (by omega) v1 w2 c1 k6 a2
        ((s_at h.e he 0 0 rfl (by decide)).trans (congrArg some eq0)) (k_size hN k1) (fun i hi => k_byteOf hN k1 hi) ((s_at h.e he 1 1 rfl (by decide)).trans (congrArg some ev)) ((s_at h.e he 2 2 rfl (by decide)).trans (congrArg some ew)) ((s_at h.e he 5 5 rfl (by decide)).trans (congrArg some ec)) (s_at h.e he 8 8 rfl (by decide)) (s_stale h.z h.e he)
      refine ⟨_, _, _, st, Or.inr (Or.inr (Or.inr ⟨h1, h2, e, ks.length, v, wt, ct, fun i => ks.getD (ks.length - 1 - i) 0 + 96, if cl (rw' (T 4) e) 8 = 0 then 0 else 1, stI (V 0) (V 4 0) (cl (rw' (T 4) e) 6), by omega, a1, k6, hlt, ?_, ?_, ?_, ?_, ?_, v1, w2, c1, ?_, ?_, ?_⟩))⟩
      · rw [g7]
        exact k_length hN k1
      · intro i hi
        rw [g7]
        exact k_byteAt hN k1 hi
      · exact (tg e 0 0 rfl (by omega) (by decide)).trans ev
      · exact (tg e 1 1 rfl (by omega) (by decide)).trans ew
      · exact (tg e 3 3 rfl (by omega) (by decide)).trans ec
      · unfold F_X0_isDirty
        rw [lt_b, tg e 8 8 rfl (by omega) (by decide)]
        split <;> rfl
      · exact n_stale (by omega)
      · refine congrArg (tR y) (tX_od ?_)
        constructor
        · intro z
          rw [if_pos z]
        · intro z
          by_cases y0 : cl (rw' (T 4) e) 8 = 0
          · exact y0
          · rw [if_neg y0] at z
            exact absurd z (by decide)
  · exact ⟨-1001, w, wm, by unfold F_X12_text; rw [if_neg h1, if_neg h2], Or.inr (Or.inl ⟨h1, h2, rfl⟩)⟩
theorem sby : ∀ i, i < 4 → ∀ b ∈ sByt.getD i [], b.toNatClampNeg < 128 ∧ b = nI b.toNatClampNeg := by decide +kernel
theorem tX_byte {lt : Nat → Nat} {n v wt ct : Nat} {od os : Int32} (hlt : ∀ i, i < n → lt i < 128) : ∀ b ∈ tX lt n (dg v) (dg wt) (dg ct) od os, ∃ x, x < 128 ∧ b = nI x := by
  have hst : ∀ i, i < 4 → ∀ b ∈ sByt.getD i [], ∃ x, x < 128 ∧ b = nI x := by
    intro i hi b hb
    have := sby i hi b hb
    exact ⟨b.toNatClampNeg, this.1, this.2⟩
  intro b hb
  unfold tX tB at hb
  simp only [List.mem_append] at hb
  rcases hb with ((((((((hb | hb) | hb) | hb) | hb) | hb) | hb) | hb) | hb)
  · unfold kl at hb
    obtain ⟨j, hj, rfl⟩ := List.mem_map.mp hb
    exact ⟨lt j, hlt j (List.mem_range.mp hj), rfl⟩
  · rw [List.mem_singleton] at hb
    exact ⟨32, by decide, hb⟩
  · exact dgN_byte _ _ b hb
  · exact hst 0 (by decide) b hb
  · exact dgN_byte _ _ b hb
  · exact hst 1 (by decide) b hb
  · exact dgN_byte _ _ b hb
  · split at hb
    · cases hb
    · exact hst 2 (by decide) b hb
  · split at hb
    · cases hb
    · exact hst 3 (by decide) b hb
