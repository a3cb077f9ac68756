/-! ===== image and back: both sides ===== -/
theorem RR.ext {T : Nat → Rows} {V V' : Nat → Nat → Int32} {g g' : Nat → Int32} (h : RR T V g) (hg : ∀ p, p < 8787 → g' p = g p) (h0 : ∀ i, i < 8 → V' 0 i = V 0 i) (h1 : ∀ i, i < 14 → V' 1 i = V 1 i) (h2 : ∀ i, i < 64 → V' 2 i = V 2 i) (h3 : ∀ i, i < 64 → V' 3 i = V 3 i) (h4 : V' 4 = V 4) : RR T V' g' := by
  refine ⟨h.k.frame (fun p hp => hg p (by omega)), h.t.frame (fun p hp => hg p (by omega)), h.w.frame (fun p hp => hg p (by omega)), h.a.frame (fun p hp => hg p (by omega)), h.e.frame (fun p hp => hg p (by omega)), h.c.frame (fun p hp => hg p (by omega)), h.l.frame (fun p hp => hg p (by omega)), h.b.frame (fun p hp => hg p (by omega)), ?_, ?_, ?_, ?_⟩
  · obtain ⟨z1, z2, z3, z4, z5, n, w, hu, z7, z8, z9, z10, z11⟩ := h.z.frame (g' := g') (fun p hp => hg p (by omega))
    rw [h4]
    exact ⟨fun i hi => (z1 i hi).trans (h0 i hi).symm, z2, z3, z4, z5, n, w, hu, z7, z8, z9, (h0 1 (by decide)).trans z10, z11⟩
  · exact fun i hi => ((h.d.frame (g' := g') (fun p hp => hg p (by omega))) i hi).trans (h1 i hi).symm
  · exact fun i hi => ((h.o.frame (g' := g') (fun p hp => hg p (by omega))) i hi).trans (h2 i hi).symm
  · exact fun i hi => ((h.s.frame (g' := g') (fun p hp => hg p (by omega))) i hi).trans (h3 i hi).symm
theorem Iv.ext {p : P} {T : Nat → Rows} {V V' : Nat → Nat → Int32} (h : Iv p T V) (h0 : ∀ i, i < 8 → V' 0 i = V 0 i) (h3 : ∀ i, i < 64 → V' 3 i = V 3 i) (h4 : V' 4 = V 4) : Iv p T V' := by
  refine ⟨?_, ?_, h.x, h.sum, h.cold, ?_, ?_, h.ld⟩
  · obtain ⟨a1, a2, a3, a4, a5, a6, a7, a8⟩ := h.r
    exact ⟨(h0 0 (by decide)).trans a1, a2, (h0 6 (by decide)).trans a3, a4, (h0 4 (by decide)).trans a5, a6, (h0 7 (by decide)).trans a7, a8⟩
  · have := h.i0
    unfold Inv0 at this ⊢
    rw [h4]
    exact this
  · rw [h4]
    exact h.n
  · intro i hi
    obtain ⟨a, ha, e⟩ := h.sk i hi
    exact ⟨a, ha, (h3 i hi).trans e⟩
theorem SQ.ext {c : Nat} {tp tp' : List Nat} {T : Nat → Rows} {V V' : Nat → Nat → Int32} {g g' : Nat → Int32} (h : SQ c tp T V g) (hg : ∀ p, p < 8787 → g' p = g p) (h0 : ∀ i, i < 8 → V' 0 i = V 0 i) (h1 : ∀ i, i < 14 → V' 1 i = V 1 i) (h2 : ∀ i, i < 64 → V' 2 i = V 2 i) (h3 : ∀ i, i < 64 → V' 3 i = V 3 i) (h4 : V' 4 = V 4) : SQ (c + 1) tp' T V' g' := by
  obtain ⟨p, q, a1, a2, a3, a4⟩ := h
  refine ⟨p, q, a1.ext hg h0 h1 h2 h3 h4, a2.ext h0 h3 h4, a3, ?_⟩
  have : ne1 tp' ≤ 1 := by unfold ne1; by_cases q : tp' = [] <;> simp [q]
  omega
theorem s_laysL {N : Nat} {f0 : Nat → Int32} (k : (Nat → Int32) → Option (Nat → Int32)) : ∀ (d i : Nat) (f1 : Nat → Int32), (∀ p, p < i → f1 p = f0 p) → i + d = 8787 → ∃ f', (∀ n, d < n → L_X12_lays_2 N k f0 n (nI i) f1 = k f') ∧ ∀ p, p < 8787 → f' p = f0 p := by
  intro d
  induction d with
  | zero =>
    intro i f1 h hi
    have ei : i = 8787 := by omega
    subst ei
    refine ⟨f1, fun n hn => ?_, h⟩
    obtain ⟨m, rfl⟩ : ∃ m, n = m + 1 := ⟨n - 1, by omega⟩
    rw [e_X12_lays_2]
    unfold K_X12_lays_2
    rw [if_pos (by decide)]
  | succ d ih =>
    intro i f1 h hi
    obtain ⟨f', h1, h2⟩ := ih (i + 1) (upd f1 i (f0 i)) (fun p hp => by
      unfold upd
      by_cases q : p = i
      · rw [if_pos q, q]
      · rw [if_neg q]; exact h p (by omega)) (by omega)
    refine ⟨f', fun n hn => ?_, h2⟩
    obtain ⟨m, rfl⟩ : ∃ m, n = m + 1 := ⟨n - 1, by omega⟩
    rw [e_X12_lays_2]
    unfold K_X12_lays_2
    rw [if_neg (show ¬ (8787 : Int32) ≤ nI i from nI_ge (a := i) (b := 8787) (by omega) (by decide)), gl (nI i) i rfl (by omega), gs (nI i) i rfl (by omega), lt_b, nI_1]
    exact h1 m (by omega)
theorem s_lays {N : Nat} (hN : 65536 ≤ N) (f0 f1 : Nat → Int32) : ∃ f', F_X12_lays N f0 f1 = some f' ∧ ∀ p, p < 8787 → f' p = f0 p := by
  obtain ⟨f', h1, h2⟩ := s_laysL (N := N) (f0 := f0) (fun f1 => some f1) 8787 0 f1 (fun p hp => absurd hp (Nat.not_lt_zero _)) rfl
  exact ⟨f', h1 N (by omega), h2⟩
theorem cpn_in (L : Nat) (hL : 0 < L) (h : L < 65536) (f0 f1 : Nat → Int32) : ∀ i, i < L → cpn L L f0 f1 (nI L) i = f0 i := by
  intro i hi
  unfold cpn
  rw [if_neg (nI_nle hL (by omega)), if_neg (show ¬ nI L < nI L from fun z => Int32.lt_irrefl z), if_neg (show ¬ nI L < nI L from fun z => Int32.lt_irrefl z), nI_clamp (by omega)]
  unfold va_cpy
  rw [if_pos ⟨Nat.zero_le _, by omega⟩, Nat.zero_add, Nat.sub_zero]
/-- the numbers that a copy of V over K has -/
def cpV (V K : Nat → Nat → Int32) : Nat → Nat → Int32 := fun j => match j with
  | 0 => cpn 8 8 (V 0) (K 0) (nI 8)
  | 1 => cpn 14 14 (V 1) (K 1) (nI 14)
  | 2 => cpn 64 64 (V 2) (K 2) (nI 64)
  | 3 => cpn 64 64 (V 3) (K 3) (nI 64)
  | j + 4 => V (j + 4)
theorem SQ.copy {c : Nat} {tp tp' : List Nat} {T : Nat → Rows} {V : Nat → Nat → Int32} {g g' : Nat → Int32} (h : SQ c tp T V g) (hg : ∀ p, p < 8787 → g' p = g p) (K : Nat → Nat → Int32) : SQ (c + 1) tp' T (cpV V K) g' :=
  h.ext hg (cpn_in 8 (by decide) (by decide) _ _) (cpn_in 14 (by decide) (by decide) _ _) (cpn_in 64 (by decide) (by decide) _ _) (cpn_in 64 (by decide) (by decide) _ _) rfl
theorem s_copy (T kT : Nat → Rows) (V K : Nat → Nat → Int32) : F_X8_copyFrom (K 0) (K 4 0) (kT 0) (kT 1) (kT 2) (kT 3) (K 1) (K 2) (kT 4) (kT 5) (K 3) (K 4 1) (K 4 2) (K 4 3) (K 4 4) (kT 6) (kT 7) (kT 8) (V 0) (V 4 0) (T 0) (T 1) (T 2) (T 3) (V 1) (V 2) (T 4) (T 5) (V 3) (V 4 1) (V 4 2) (V 4 3) (V 4 4) (T 6) (T 7) (T 8) = some (cpV V K 0, cpV V K 4 0, T 0, T 1, T 2, T 3, cpV V K 1, cpV V K 2, T 4, T 5, cpV V K 3, cpV V K 4 1, cpV V K 4 2, cpV V K 4 3, cpV V K 4 4, T 6, T 7, T 8) := rfl
theorem m_image {N : Nat} (hN : 65536 ≤ N) {c : Nat} {tp : List Nat} {T : Nat → Rows} {V : Nat → Nat → Int32} {g : Nat → Int32} (hs : SQ c tp T V g) (kT : Nat → Rows) (K : Nat → Nat → Int32) (kept : Nat → Int32) (isKept : Int32) :
    ∃ (r : Int32) (K' : Nat → Nat → Int32) (kept' : Nat → Int32), F_X11_image (V 0) (V 4 0) (T 0) (T 1) (T 2) (T 3) (V 1) (V 2) (T 4) (T 5) (V 3) (V 4 1) (V 4 2) (V 4 3) (V 4 4) (T 6) (T 7) (T 8) (K 0) (K 4 0) (kT 0) (kT 1) (kT 2) (kT 3) (K 1) (K 2) (kT 4) (kT 5) (K 3) (K 4 1) (K 4 2) (K 4 3) (K 4 4) (kT 6) (kT 7) (kT 8) = some (r, K' 0, K' 4 0, T 0, T 1, T 2, T 3, K' 1, K' 2, T 4, T 5, K' 3, K' 4 1, K' 4 2, K' 4 3, K' 4 4, T 6, T 7, T 8) ∧ F_X12_image N g kept isKept = some (r, kept', 1) ∧ SQ (c + 1) [] T K' kept' := by
  obtain ⟨k', h1, h2⟩ := s_lays hN g kept
  have hR : RR T V g := by obtain ⟨p, q, a1, a2, a3, a4⟩ := hs; exact a1
  refine ⟨nI (T 4).length, cpV V K, k', ?_, ?_, hs.copy h2 K⟩
  · unfold F_X11_image
    rw [s_copy, bd_some]
    rfl
  · unfold F_X12_image
    rw [h1, bd_some, lt_b, gl 13 13 rfl (by decide), s_many hR.e]
theorem m_back {N : Nat} (hN : 65536 ≤ N) {c : Nat} {tp : List Nat} {T : Nat → Rows} {V : Nat → Nat → Int32} {g : Nat → Int32} {kT : Nat → Rows} {K : Nat → Nat → Int32} {kept : Nat → Int32} (hk : SQ c [] kT K kept) :
    ∃ (r : Int32) (V' : Nat → Nat → Int32) (g' : Nat → Int32), F_X11_back (V 0) (V 4 0) (T 0) (T 1) (T 2) (T 3) (V 1) (V 2) (T 4) (T 5) (V 3) (V 4 1) (V 4 2) (V 4 3) (V 4 4) (T 6) (T 7) (T 8) (K 0) (K 4 0) (kT 0) (kT 1) (kT 2) (kT 3) (K 1) (K 2) (kT 4) (kT 5) (K 3) (K 4 1) (K 4 2) (K 4 3) (K 4 4) (kT 6) (kT 7) (kT 8) = some (r, V' 0, V' 4 0, kT 0, kT 1, kT 2, kT 3, V' 1, V' 2, kT 4, kT 5, V' 3, V' 4 1, V' 4 2, V' 4 3, V' 4 4, kT 6, kT 7, kT 8) ∧ F_X12_back N g kept 1 = some (r, g') ∧ SQ (c + 1) tp kT V' g' := by
  obtain ⟨k', h1, h2⟩ := s_lays hN kept g
  have hS := hk.copy (tp' := tp) h2 V
  have hR : RR kT (cpV K V) k' := by obtain ⟨p, q, a1, a2, a3, a4⟩ := hS; exact a1
  refine ⟨nI (kT 4).length, cpV K V, k', ?_, ?_, hS⟩
  · unfold F_X11_back
    rw [s_copy, bd_some]
    rfl
  · unfold F_X12_back
    rw [if_neg (by decide), h1, bd_some, gl 13 13 rfl (by decide), s_many hR.e]
theorem m_back0 {N : Nat} (g kept : Nat → Int32) : F_X12_back N g kept 0 = some (-1005, g) := by
  unfold F_X12_back
  rw [if_pos rfl]
