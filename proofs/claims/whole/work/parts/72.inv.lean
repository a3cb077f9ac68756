/-! ===== all that always holds; the cold shelf: both sides ===== -/
/-- room, cold, loaders, lease, now, uses since the window was told, entries so far -/
def P : Type := Nat × Nat × Nat × Nat × Nat × Nat × Nat
def P.mk (room c lo le t u a : Nat) : P := (room, c, lo, le, t, u, a)
def P.room (p : P) : Nat := Prod.fst p
def P.c (p : P) : Nat := (Prod.snd p).1
def P.lo (p : P) : Nat := (Prod.snd p).2.1
def P.le (p : P) : Nat := (Prod.snd p).2.2.1
def P.t (p : P) : Nat := (Prod.snd p).2.2.2.1
def P.u (p : P) : Nat := (Prod.snd p).2.2.2.2.1
def P.a (p : P) : Nat := (Prod.snd p).2.2.2.2.2
def iR (p : P) (v : Nat → Int32) : Prop := v 0 = nI p.room ∧ p.room ≤ 200 ∧ v 6 = nI p.c ∧ p.c ≤ 20 ∧ v 4 = nI p.lo ∧ p.lo ≤ 8 ∧ v 7 = nI p.le ∧ p.le ≤ 999
def Iv (p : P) (T : Nat → Rows) (V : Nat → Nat → Int32) : Prop := (iR p (V 0)) ∧ (Inv0 T V) ∧ (iX (T 4) (T 5)) ∧ (wSN (T 4) ≤ p.room) ∧ ((T 5).length ≤ p.c) ∧ (V 4 0 = nI p.t ∧ p.t ≤ 99999 ∧ V 4 5 = nI p.u ∧ V 4 3 = nI p.a) ∧ (c15 (V 3)) ∧ (iLd T p.t)
theorem Iv.r {p : P} {T : Nat → Rows} {V : Nat → Nat → Int32} (h : Iv p T V) : iR p (V 0) := h.1
theorem Iv.i0 {p : P} {T : Nat → Rows} {V : Nat → Nat → Int32} (h : Iv p T V) : Inv0 T V := h.2.1
theorem Iv.x {p : P} {T : Nat → Rows} {V : Nat → Nat → Int32} (h : Iv p T V) : iX (T 4) (T 5) := h.2.2.1
theorem Iv.sum {p : P} {T : Nat → Rows} {V : Nat → Nat → Int32} (h : Iv p T V) : wSN (T 4) ≤ p.room := h.2.2.2.1
theorem Iv.cold {p : P} {T : Nat → Rows} {V : Nat → Nat → Int32} (h : Iv p T V) : (T 5).length ≤ p.c := h.2.2.2.2.1
theorem Iv.n {p : P} {T : Nat → Rows} {V : Nat → Nat → Int32} (h : Iv p T V) : V 4 0 = nI p.t ∧ p.t ≤ 99999 ∧ V 4 5 = nI p.u ∧ V 4 3 = nI p.a := h.2.2.2.2.2.1
theorem Iv.sk {p : P} {T : Nat → Rows} {V : Nat → Nat → Int32} (h : Iv p T V) : c15 (V 3) := h.2.2.2.2.2.2.1
theorem Iv.ld {p : P} {T : Nat → Rows} {V : Nat → Nat → Int32} (h : Iv p T V) : iLd T p.t := h.2.2.2.2.2.2.2
/-- what grows by one at most in a call, and in how many calls -/
def Bd (p : P) (q : Nat) (T : Nat → Rows) : Prop := 2 * p.u ≤ q ∧ 2 * p.a ≤ q ∧ 2 * (T 6).length ≤ q ∧ 2 * (T 7).length ≤ q
/-- what may have changed of these in a call -/
def Gr (p p' : P) (T T' : Nat → Rows) : Prop := p'.u ≤ p.u + 1 ∧ p'.a ≤ p.a + 1 ∧ (T' 6).length ≤ (T 6).length + 1 ∧ (T' 7).length ≤ (T 7).length + 1
theorem Bd.gr {p p' : P} {q : Nat} {T T' : Nat → Rows} (h : Bd p q T) (hg : Gr p p' T T') : Bd p' (q + 2) T' := by
  obtain ⟨h1, h2, h3, h4⟩ := h
  obtain ⟨g1, g2, g3, g4⟩ := hg
  exact ⟨by omega, by omega, by omega, by omega⟩
theorem fk_ne {c : Nat} {rows : Rows} {v : Int32} (h : ∀ r ∈ rows, ¬ cl r c = v) : fk c rows v = none := by
  cases q : fk c rows v with
  | none => rfl
  | some i =>
    have := fk_lt q
    exact absurd this.2 (h _ (mem_at this.1))
theorem fk_lt31 {c : Nat} {rows : Rows} {v : Int32} (hl : rows.length ≤ 65536) : ∀ j, fk c rows v = some j → j < 2 ^ 31 := fun j hj => by have := (fk_lt hj).1; omega
theorem s_coldAt {g : Nat → Int32} {colds : Rows} (h : RC g colds) {i : Nat} (hi : i < colds.length) (x : Int32) (c : Nat) (hx : x = nI c) (hc : c < 5) : F_X12_coldAt g (nI i) x = some (cl (mCo (rw' colds i)) c) := by
  subst hx
  unfold F_X12_coldAt
  have h21 := h.2
  have e : (1898 : Int32) + nI i * 5 + nI c = nI (1898 + (i * 5 + c)) := ix3 1898 i 5 c
  rw [gl _ (1898 + (i * 5 + c)) e (by omega), h.1.2 i c (by rw [List.length_map]; exact hi) hc]
  congr 1
  exact congrArg (fun r => List.getD r c 0) (map_at mCo hi)
theorem s_coldOfL {g : Nat → Int32} {colds : Rows} (h : RC g colds) (hC : iC colds) {k : Int32} (hk : Vk k) (N : Nat) : ∀ (n i : Nat), i ≤ colds.length → colds.length < n + i → L_X12_coldOf_2 N (fun _ => some (-1)) (fun x2 => some x2) (kc k) g n (nI i) = some (oI ((fk 7 (colds.drop i) k).map (fun j => j + i))) := by
  have h21 := h.2
  have hm : g 14 = nI colds.length := by rw [h.1.1, List.length_map]
  intro n
  induction n with
  | zero => intro i h1 h2; omega
  | succ n ih =>
    intro i h1 h2
    rw [e_X12_coldOf_2]
    unfold K_X12_coldOf_2
    rw [gl 14 14 rfl (by decide), hm]
    by_cases q : i = colds.length
    · rw [if_pos (by rw [q]; exact nI_le (Nat.le_refl _) (by omega)), q, List.drop_length]
      rfl
    · have hi : i < colds.length := by omega
      rw [if_neg (nI_ge hi (by omega)), s_coldAt h hi 0 0 rfl (by decide), bd_some, drop_get hi]
      have hv : Vk (cl (rw' colds i) 7) := (hC _ (mem_at hi)).1
      have e : cl (mCo (rw' colds i)) 0 = kc (cl (rw' colds i) 7) := rfl
      rw [e]
      unfold fk
      rw [List.findIdx?_cons]
      by_cases q2 : cl (rw' colds i) 7 = k
      · have q2' : cl (colds.getD i []) 7 = k := q2
        rw [if_pos ((kc_inj hv hk).mpr q2), decide_eq_true q2', if_pos rfl]
        show some (nI i) = some (nI (0 + i))
        rw [Nat.zero_add]
      · have q2' : ¬ cl (colds.getD i []) 7 = k := q2
        rw [if_neg (fun z => q2 ((kc_inj hv hk).mp z)), decide_eq_false q2', if_neg (by decide), lt_b, nI_1, ih (i + 1) (by omega) (by omega)]
        congr 1
        unfold fk
        rw [Option.map_map]
        congr 1
        refine Option.map_congr (fun j _ => ?_)
        show j + (i + 1) = j + 1 + i
        omega
theorem s_coldOf {N : Nat} (hN : 65536 ≤ N) {g : Nat → Int32} {colds : Rows} (h : RC g colds) (hC : iC colds) {k : Int32} (hk : Vk k) : F_X12_coldOf N g (kc k) = some (oI (fk 7 colds k)) := by
  unfold F_X12_coldOf
  have h21 := h.2
  have := s_coldOfL h hC hk N N 0 (by omega) (by omega)
  rw [nI_0, List.drop_zero] at this
  rw [this]
  congr 2
  cases fk 7 colds k <;> rfl
theorem s_coldOut {N : Nat} (hN : 65536 ≤ N) {T : Nat → Rows} {V : Nat → Nat → Int32} {g : Nat → Int32} (h : RR T V g) {i : Nat} (hi : i < (T 5).length) : ∃ g', F_X12_takesOut N g 14 1898 5 (nI i) = some g' ∧ RR (va_up T 5 ((T 5).eraseIdx i)) V g' := by
  have hrc := h.2.2.2.2.2.1
  have h21 := hrc.2
  obtain ⟨g', c1, c2, c3⟩ := g_takesOut hN hrc.1 (by decide) (by rw [List.length_map]; omega) (by decide) (Or.inl (by decide)) (i := i) (by rw [List.length_map]; exact hi)
  rw [List.length_map] at c3
  rw [map_erase] at c2
  refine ⟨g', c1, h.uRC ⟨c2, ?_⟩ (fun p hp hq => c3 p (by omega) (by omega))⟩
  rw [List.length_eraseIdx_of_lt hi]; omega
theorem iC_erase {colds : Rows} (h : iC colds) (i : Nat) : iC (colds.eraseIdx i) := fun r hr => h r (List.mem_of_mem_eraseIdx hr)
theorem cold_gone {colds : Rows} (h : colds.Pairwise (fun r q => ¬ cl r 7 = cl q 7)) {k : Int32} {i : Nat} (hi : fk 7 colds k = some i) : ∀ r ∈ colds.eraseIdx i, ¬ cl r 7 = k := by
  obtain ⟨h1, h2⟩ := fk_lt hi
  intro r hr
  rw [List.mem_eraseIdx_iff_getElem] at hr
  obtain ⟨j, hj, hne, rfl⟩ := hr
  have hp := List.pairwise_iff_getElem.mp h
  rw [show rw' colds i = colds[i] from q_getD_lt h1] at h2
  rcases Nat.lt_or_gt_of_ne hne with q | q
  · exact fun z => hp j i hj h1 q (z.trans h2.symm)
  · exact fun z => hp i j h1 hj q (h2.trans z.symm)
theorem n_remove0 {dm : Nat} {rows : Rows} {i : Nat} (h : i < 65536) : F_X0_remove dm rows (nI i) = some (rows.eraseIdx i) := by
  unfold F_X0_remove
  rw [lt_b, tremove_nI (by omega)]
theorem n_get0 {dm : Nat} {rows : Rows} {i : Nat} (h : i < 65536) (x : Int32) (c : Nat) (hx : x = nI c) (hc : c < 9) : F_X0_get dm rows (nI i) x = some (cl (rw' rows i) c) := by
  unfold F_X0_get
  rw [lt_b, tg i x c hx (by omega) (by omega)]
theorem n_has {dm : Nat} {rows : Rows} (hl : rows.length ≤ 65536) {k : Int32} : F_X0_has dm rows k = some (if fk 7 rows k = none then 0 else 1) := by
  unfold F_X0_has
  rw [n_rowOf, bd_some]
  by_cases q : fk 7 rows k = none
  · rw [if_pos q, if_pos ((oI_m1 (fk_lt31 hl)).mpr q)]
  · rw [if_neg q, if_neg (fun z => q ((oI_m1 (fk_lt31 hl)).mp z))]
