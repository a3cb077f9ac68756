/-! ===== other rules: the run: both sides ===== -/
theorem er_map {α β : Type} {f : α → β} : ∀ {l : List α} {i : Nat}, (l.map f).eraseIdx i = (l.eraseIdx i).map f
  | [], i => by cases i <;> rfl
  | x :: xs, 0 => rfl
  | x :: xs, i + 1 => by
    show f x :: (xs.map f).eraseIdx i = f x :: (xs.eraseIdx i).map f
    rw [er_map]
theorem mod_set {Q : List Qr} {i : Nat} {f : List Int32 → List Int32} {q' : Qr} (hi : i < Q.length) (h : f (qRow (qAt Q i)) = qRow q') : (Q.map qRow).modify i f = (Q.set i q').map qRow := by
  refine List.ext_getElem (by rw [List.length_modify, List.length_map, List.length_map, List.length_set]) (fun j h1 h2 => ?_)
  rw [List.getElem_modify, List.getElem_map, List.getElem_map, List.getElem_set]
  by_cases z : i = j
  · subst z
    rw [if_pos rfl, if_pos rfl, ← h, show qAt Q i = Q[i] from q_getD_lt hi]
  · rw [if_neg z, if_neg z]
set_option maxHeartbeats 2000000 in
theorem s_hitsL {N : Nat} (hN : 65536 ≤ N) {n rule w : Nat} (hn1 : 1 ≤ n) (hn : n ≤ 12) (hr : rule < 4) (hw : 0 < w) (hw5 : w ≤ 500) {g : Nat → Int32} (hg : g 1 = nI w) {KS : Rows} (hK : KS.length ≤ 60) (hkv : kOK KS) {asked : Nat → Int32} (ha : ∀ t, t < KS.length → asked t = kc (cl (rw' KS t) 0)) (dm dw : Nat) : ∀ (d t hits : Nat) (A : Ar) (Q : List Qr), t + d = KS.length → PR A t n Q →
    ∃ (h' : Nat) (pl' : Rows) (A' : Ar), (∀ f, d < f → L_X4_hits_16 N dm dw (fun x5 places => some (x5, places)) (nI rule) (nI n) (nI w) KS f (nI hits) (uwI rule w t) (nI t) (Q.map qRow) = some (nI h', pl')) ∧ ∀ f, d < f → L_X12_goes_8 N (fun x4 there counts lasts cames => some (x4, there, counts, lasts, cames)) (nI rule) (nI n) g asked (nI KS.length) f (nI Q.length) (nI hits) (nI t) A.1 A.2.1 A.2.2.1 A.2.2.2 = some (nI h', A') := by
  intro d
  induction d with
  | zero =>
    intro t hits A Q ht h
    refine ⟨hits, Q.map qRow, A, fun f hf => ?_, fun f hf => ?_⟩
    · obtain ⟨f, rfl⟩ : ∃ q, f = q + 1 := ⟨f - 1, by omega⟩
      rw [e_X4_hits_16]
      unfold K_X4_hits_16
      rw [lt_b, if_pos (show tsize KS ≤ nI t from nI_le (by omega) (by omega))]
    · obtain ⟨f, rfl⟩ : ∃ q, f = q + 1 := ⟨f - 1, by omega⟩
      rw [e_X12_goes_8]
      unfold K_X12_goes_8
      rw [if_pos (nI_le (by omega) (by omega))]
  | succ d ih =>
    intro t hits A Q ht h
    have htl : t < KS.length := by omega
    have hl := h.1
    generalize hk : cl (rw' KS t) 0 = k
    have kV : Vk k := by rw [← hk]; exact hkv _ (mem_at htl)
    have eask : asked t = kc k := by rw [ha t htl, hk]
    have efk : tfind (Q.map qRow) 0 k 0 = oI (Q.findIdx? (fun q => decide (qk q = k))) := by rw [tfind_oI _ 0 0 rfl (by decide), q_find]
    -- behind the use: what both do next
    have fin : ∀ (A1 : Ar) (Q1 : List Qr) (h1 : Nat) (X : Nat → Option (Int32 × Rows)) (Y : Nat → Option (Int32 × Ar)), PR A1 (t + 1) n Q1 →
        (∀ f, X f = J_X4_hits_129 N dm dw (L_X4_hits_16 N dm dw (fun x5 places => some (x5, places)) (nI rule) (nI n) (nI w) KS f) (fun x5 places => some (x5, places)) (nI rule) (nI n) (nI w) (nI h1) (uwI rule w t) (nI t) (Q1.map qRow) KS) →
        (∀ f, Y f = L_X12_goes_165 N (fun counts => J_X12_goes_207 N (L_X12_goes_8 N (fun x4 there counts lasts cames => some (x4, there, counts, lasts, cames)) (nI rule) (nI n) g asked (nI KS.length) f) (fun x4 there counts lasts cames => some (x4, there, counts, lasts, cames)) (nI rule) (nI n) (nI Q1.length) (nI h1) (nI t) g asked (nI KS.length) A1.1 counts A1.2.2.1 A1.2.2.2) (nI rule) (nI n) (nI Q1.length) (nI h1) (nI t) g asked (nI KS.length) A1.1 A1.2.2.1 A1.2.2.2 N 0 A1.2.1) →
        ∃ (h' : Nat) (pl' : Rows) (A' : Ar), (∀ f, d < f → X f = some (nI h', pl')) ∧ ∀ f, d < f → Y f = some (nI h', A') := by
      intro A1 Q1 h1 X Y hp hX hY
      obtain ⟨A2, Q2, p2, l2, a1, a2, c1, c2⟩ := s_tail hN hp hn (by omega) hr hw hw5 hg
      obtain ⟨h', pl', A', e1, e2⟩ := ih (t + 1) h1 A2 Q2 (by omega) p2
      refine ⟨h', pl', A', fun f hf => ?_, fun f hf => ?_⟩
      · rw [hX f, c1]
        exact e1 f hf
      · rw [hY f, c2]
        unfold J_X12_goes_207
        rw [lt_b, nI_1, ← a1, ← a2, ← l2]
        exact e2 f hf
    cases hf : Q.findIdx? (fun q => decide (qk q = k)) with
    | some i =>
      rw [List.findIdx?_eq_some_iff_getElem] at hf
      obtain ⟨hi, hki, -⟩ := hf
      have hki' : qk (qAt Q i) = k := by
        rw [show qAt Q i = Q[i] from q_getD_lt hi]
        simpa using hki
      obtain ⟨s1, -, s3, s4, s5, s6, s7, s8, s9⟩ := h.2.1 _ (qAt_mem hi)
      have hp := PR_hit h hi
      obtain ⟨h', pl', A', e1, e2⟩ := fin _ _ (hits + 1) (fun f => K_X4_hits_16 N dm dw (L_X4_hits_16 N dm dw (fun x5 places => some (x5, places)) (nI rule) (nI n) (nI w) KS f) (fun x5 places => some (x5, places)) (nI rule) (nI n) (nI w) KS (nI hits) (uwI rule w t) (nI t) (Q.map qRow)) (fun f => K_X12_goes_8 N (L_X12_goes_8 N (fun x4 there counts lasts cames => some (x4, there, counts, lasts, cames)) (nI rule) (nI n) g asked (nI KS.length) f) (fun x4 there counts lasts cames => some (x4, there, counts, lasts, cames)) (nI rule) (nI n) g asked (nI KS.length) (nI Q.length) (nI hits) (nI t) A.1 A.2.1 A.2.2.1 A.2.2.2) hp (fun f => by
        unfold K_X4_hits_16
        have hne : ¬ oI (some i) = -1 := fun z => by
          have := (oI_m1 (o := some i) (fun j hj => by cases hj; omega)).mp z
          cases this
        have hfi : Q.findIdx? (fun q => decide (qk q = k)) = some i := by
          rw [List.findIdx?_eq_some_iff_getElem]
          refine ⟨hi, hki, fun j hj => ?_⟩
          have hjl : j < Q.length := by omega
          rw [Bool.not_eq_true]
          refine decide_eq_false (fun z => ?_)
          have e : Q[j] = Q[i] := h.key (List.getElem_mem hjl) (List.getElem_mem hi) (z.trans (show k = qk Q[i] from (show qk Q[i] = k by simpa using hki).symm))
          have := (List.pairwise_iff_getElem.mp h.2.2 j i hjl hi hj).1
          rw [e] at this
          exact this rfl
        have hoe : oI (some i) = nI i := rfl
        have t1 : tget (Q.map qRow) (nI i) 1 = nI (qc (qAt Q i)) := by rw [tg i 1 1 rfl (by omega) (by decide), row_q hi]; rfl
        have m1 : (Q.map qRow).modify i (fun r => r.set 1 (nI (qc (qAt Q i) + 1))) = (Q.set i (qs (qAt Q i), qk (qAt Q i), qc (qAt Q i) + 1, ql (qAt Q i), qm (qAt Q i))).map qRow := mod_set hi rfl
        have m2 : ((Q.set i (qs (qAt Q i), qk (qAt Q i), qc (qAt Q i) + 1, ql (qAt Q i), qm (qAt Q i))).map qRow).modify i (fun r => r.set 2 (nI t)) = (Q.set i (qs (qAt Q i), qk (qAt Q i), qc (qAt Q i) + 1, t, qm (qAt Q i))).map qRow := by
          have := mod_set (Q := Q.set i (qs (qAt Q i), qk (qAt Q i), qc (qAt Q i) + 1, ql (qAt Q i), qm (qAt Q i))) (i := i) (f := fun r => r.set 2 (nI t)) (q' := (qs (qAt Q i), qk (qAt Q i), qc (qAt Q i) + 1, t, qm (qAt Q i))) (by rw [List.length_set]; exact hi) (by
            have e : qAt (Q.set i (qs (qAt Q i), qk (qAt Q i), qc (qAt Q i) + 1, ql (qAt Q i), qm (qAt Q i))) i = (qs (qAt Q i), qk (qAt Q i), qc (qAt Q i) + 1, ql (qAt Q i), qm (qAt Q i)) := by
              show (Q.set i _).getD i _ = _
              rw [gset hi, if_pos rfl]
            rw [e]
            rfl)
          rw [List.set_set] at this
          exact this
        rw [lt_b, if_neg (show ¬ tsize KS ≤ nI t from nI_ge htl (by omega)), lt_b, tg t 0 0 rfl (by omega) (by decide), hk, lt_b, efk, hfi, if_neg hne, lt_b, nI_1, hoe, lt_b, t1, nI_1, lt_b, tset_nI (by omega) 1 1 rfl (by decide), m1, lt_b, tset_nI (by omega) 2 2 rfl (by decide), m2]) (fun f => by
        unfold K_X12_goes_8
        have sl := s_slotL (N := N) h hn kV (fun x6 => J_X12_goes_49 N (L_X12_goes_8 N (fun x4 there counts lasts cames => some (x4, there, counts, lasts, cames)) (nI rule) (nI n) g asked (nI KS.length) f) (fun x4 there counts lasts cames => some (x4, there, counts, lasts, cames)) (nI rule) (nI n) (nI Q.length) (nI hits) (nI t) x6 g asked (nI KS.length) A.1 A.2.1 A.2.2.1 A.2.2.2) (nI rule) (nI n) (nI hits) (t5 := t) (by omega) g asked (nI KS.length) eask (s := qs (qAt Q i)) (by omega) (fun q hq hlt z => by
          have : q = qAt Q i := h.key hq (qAt_mem hi) (z.trans hki'.symm)
          rw [this] at hlt
          omega) (fun _ => ⟨_, qAt_mem hi, rfl, hki'⟩) N 0 (Nat.zero_le _) (by omega)
        rw [nI_0] at sl
        rw [if_neg (nI_ge htl (by omega)), sl]
        unfold J_X12_goes_49 J_X12_goes_153
        rw [if_neg (nI_ge s1 (by omega)), lt_b, nI_1, ldn (k := qs (qAt Q i)) rfl (by omega), s4, nI_1, ston (k := qs (qAt Q i)) rfl (by omega), ston (k := qs (qAt Q i)) rfl (by omega), List.length_set])
      refine ⟨h', pl', A', fun f hf => ?_, fun f hf => ?_⟩
      · obtain ⟨f, rfl⟩ : ∃ q, f = q + 1 := ⟨f - 1, by omega⟩
        rw [e_X4_hits_16]
        exact e1 f (by omega)
      · obtain ⟨f, rfl⟩ : ∃ q, f = q + 1 := ⟨f - 1, by omega⟩
        rw [e_X12_goes_8]
        exact e2 f (by omega)
    | none =>
      have hnew : ∀ q ∈ Q, ¬ qk q = k := by
        rw [List.findIdx?_eq_none_iff] at hf
        intro q hq z
        have := hf q hq
        rw [decide_eq_true z] at this
        cases this
      have sl : ∀ f, L_X12_goes_20 N (fun x6 => J_X12_goes_49 N (L_X12_goes_8 N (fun x4 there counts lasts cames => some (x4, there, counts, lasts, cames)) (nI rule) (nI n) g asked (nI KS.length) f) (fun x4 there counts lasts cames => some (x4, there, counts, lasts, cames)) (nI rule) (nI n) (nI Q.length) (nI hits) (nI t) x6 g asked (nI KS.length) A.1 A.2.1 A.2.2.1 A.2.2.2) (nI rule) (nI n) (nI Q.length) (nI hits) (nI t) g asked (nI KS.length) A.1 A.2.1 A.2.2.1 A.2.2.2 N 0 = J_X12_goes_49 N (L_X12_goes_8 N (fun x4 there counts lasts cames => some (x4, there, counts, lasts, cames)) (nI rule) (nI n) g asked (nI KS.length) f) (fun x4 there counts lasts cames => some (x4, there, counts, lasts, cames)) (nI rule) (nI n) (nI Q.length) (nI hits) (nI t) (nI Q.length) g asked (nI KS.length) A.1 A.2.1 A.2.2.1 A.2.2.2 := fun f => by
        have := s_slotL (N := N) h hn kV (fun x6 => J_X12_goes_49 N (L_X12_goes_8 N (fun x4 there counts lasts cames => some (x4, there, counts, lasts, cames)) (nI rule) (nI n) g asked (nI KS.length) f) (fun x4 there counts lasts cames => some (x4, there, counts, lasts, cames)) (nI rule) (nI n) (nI Q.length) (nI hits) (nI t) x6 g asked (nI KS.length) A.1 A.2.1 A.2.2.1 A.2.2.2) (nI rule) (nI n) (nI hits) (t5 := t) (by omega) g asked (nI KS.length) eask (s := Q.length) (Nat.le_refl _) (fun q hq _ => hnew q hq) (fun z => absurd z (Nat.lt_irrefl _)) N 0 (Nat.zero_le _) (by omega)
        rw [nI_0] at this
        exact this
      by_cases hfull : Q.length = n
      · obtain ⟨b, hb, hbm, hbf⟩ := n_f2g hN h hn (by omega) hr (by omega)
        have hsb := (h.2.1 _ (qAt_mem hb)).1
        have hp := PR_swap h hb kV hnew
        have hel : (Q.eraseIdx b).length = Q.length - 1 := List.length_eraseIdx_of_lt hb
        obtain ⟨h', pl', A', e1, e2⟩ := fin _ _ hits (fun f => K_X4_hits_16 N dm dw (L_X4_hits_16 N dm dw (fun x5 places => some (x5, places)) (nI rule) (nI n) (nI w) KS f) (fun x5 places => some (x5, places)) (nI rule) (nI n) (nI w) KS (nI hits) (uwI rule w t) (nI t) (Q.map qRow)) (fun f => K_X12_goes_8 N (L_X12_goes_8 N (fun x4 there counts lasts cames => some (x4, there, counts, lasts, cames)) (nI rule) (nI n) g asked (nI KS.length) f) (fun x4 there counts lasts cames => some (x4, there, counts, lasts, cames)) (nI rule) (nI n) g asked (nI KS.length) (nI Q.length) (nI hits) (nI t) A.1 A.2.1 A.2.2.1 A.2.2.2) hp (fun f => by
          unfold K_X4_hits_16 J_X4_hits_116
          have es : tsize (Q.map qRow) = nI Q.length := by unfold tsize; rw [List.length_map]
          rw [lt_b, if_neg (show ¬ tsize KS ≤ nI t from nI_ge htl (by omega)), lt_b, tg t 0 0 rfl (by omega) (by decide), hk, lt_b, efk, hf, if_pos (show oI none = -1 from rfl), lt_b, es, if_neg (show ¬ nI Q.length < nI n from Int32.not_lt.mpr (nI_le (by omega) (by omega))), hbf, bd_some, lt_b, tremove_nI (by omega), lt_b, tpush3, er_map, keep_lt (by rw [List.length_map, hel]; omega), List.map_append]
          rfl) (fun f => by
          unfold K_X12_goes_8
          rw [if_neg (nI_ge htl (by omega)), sl f]
          unfold J_X12_goes_49
          rw [if_pos (nI_le (Nat.le_refl _) (by omega)), if_pos (show nI Q.length = nI n by rw [hfull])]
          have s2 := s_f2g hN h hn (by omega) hr (fun x6 => J_X12_goes_122 N (L_X12_goes_8 N (fun x4 there counts lasts cames => some (x4, there, counts, lasts, cames)) (nI rule) (nI n) g asked (nI KS.length) f) (fun x4 there counts lasts cames => some (x4, there, counts, lasts, cames)) (nI rule) (nI n) (nI Q.length) (nI hits) (nI t) x6 g asked (nI KS.length) A.1 A.2.1 A.2.2.1 A.2.2.2) (nI n) (nI hits) (nI t) g asked (nI KS.length) hb hbm
          refine s2.trans ?_
          unfold J_X12_goes_122 J_X12_goes_153
          rw [ldn (k := t) rfl (by omega), eask, ston (k := qs (qAt Q b)) rfl (by omega), ston (k := qs (qAt Q b)) rfl (by omega), ston (k := qs (qAt Q b)) rfl (by omega), ston (k := qs (qAt Q b)) rfl (by omega), List.length_append, List.length_singleton, hel, show Q.length - 1 + 1 = Q.length by omega])
        refine ⟨h', pl', A', fun f hf => ?_, fun f hf => ?_⟩
        · obtain ⟨f, rfl⟩ : ∃ q, f = q + 1 := ⟨f - 1, by omega⟩
          rw [e_X4_hits_16]
          exact e1 f (by omega)
        · obtain ⟨f, rfl⟩ : ∃ q, f = q + 1 := ⟨f - 1, by omega⟩
          rw [e_X12_goes_8]
          exact e2 f (by omega)
      · have hlt : Q.length < n := by omega
        have hp := PR_new h hlt kV hnew
        obtain ⟨h', pl', A', e1, e2⟩ := fin _ _ hits (fun f => K_X4_hits_16 N dm dw (L_X4_hits_16 N dm dw (fun x5 places => some (x5, places)) (nI rule) (nI n) (nI w) KS f) (fun x5 places => some (x5, places)) (nI rule) (nI n) (nI w) KS (nI hits) (uwI rule w t) (nI t) (Q.map qRow)) (fun f => K_X12_goes_8 N (L_X12_goes_8 N (fun x4 there counts lasts cames => some (x4, there, counts, lasts, cames)) (nI rule) (nI n) g asked (nI KS.length) f) (fun x4 there counts lasts cames => some (x4, there, counts, lasts, cames)) (nI rule) (nI n) g asked (nI KS.length) (nI Q.length) (nI hits) (nI t) A.1 A.2.1 A.2.2.1 A.2.2.2) hp (fun f => by
          unfold K_X4_hits_16 J_X4_hits_116
          have es : tsize (Q.map qRow) = nI Q.length := by unfold tsize; rw [List.length_map]
          rw [lt_b, if_neg (show ¬ tsize KS ≤ nI t from nI_ge htl (by omega)), lt_b, tg t 0 0 rfl (by omega) (by decide), hk, lt_b, efk, hf, if_pos (show oI none = -1 from rfl), lt_b, es, if_pos (nI_lt hlt (by omega)), lt_b, tpush3, keep_lt (by rw [List.length_map]; omega), List.map_append]
          rfl) (fun f => by
          unfold K_X12_goes_8
          rw [if_neg (nI_ge htl (by omega)), sl f]
          unfold J_X12_goes_49
          rw [if_pos (nI_le (Nat.le_refl _) (by omega)), if_neg (show ¬ nI Q.length = nI n from fun z => hfull ((nI_eq (by omega) (by omega)).mp z)), lt_b, nI_1]
          unfold J_X12_goes_122 J_X12_goes_153
          rw [ldn (k := t) rfl (by omega), eask, ston (k := Q.length) rfl (by omega), ston (k := Q.length) rfl (by omega), ston (k := Q.length) rfl (by omega), ston (k := Q.length) rfl (by omega), List.length_append, List.length_singleton])
        refine ⟨h', pl', A', fun f hf => ?_, fun f hf => ?_⟩
        · obtain ⟨f, rfl⟩ : ∃ q, f = q + 1 := ⟨f - 1, by omega⟩
          rw [e_X4_hits_16]
          exact e1 f (by omega)
        · obtain ⟨f, rfl⟩ : ∃ q, f = q + 1 := ⟨f - 1, by omega⟩
          rw [e_X12_goes_8]
          exact e2 f (by omega)
theorem s_hits {N : Nat} (hN : 65536 ≤ N) {n rule w : Nat} (hn1 : 1 ≤ n) (hn : n ≤ 12) (hr : rule < 4) (hw : 0 < w) (hw5 : w ≤ 500) {g : Nat → Int32} (hg : g 1 = nI w) {KS : Rows} (hK : KS.length ≤ 60) (hkv : kOK KS) {asked : Nat → Int32} (ha : ∀ t, t < KS.length → asked t = kc (cl (rw' KS t) 0)) (dm dw : Nat) (places : Rows) (there counts lasts cames : Nat → Int32) :
    ∃ (r : Int32) (pl' : Rows) (A' : Ar), F_X4_hits N dm dw places KS (nI rule) (nI n) (nI w) = some (r, pl') ∧ F_X12_goes N g asked (nI KS.length) there counts lasts cames (nI rule) (nI n) = some (r, A') := by
  have p0 : PR (there, counts, lasts, cames) 0 n [] := ⟨Nat.zero_le _, fun q hq => absurd hq List.not_mem_nil, List.Pairwise.nil⟩
  obtain ⟨h', pl', A', e1, e2⟩ := s_hitsL hN hn1 hn hr hw hw5 hg hK hkv ha dm dw KS.length 0 0 _ [] (by omega) p0
  have u0 : uwI rule w 0 = 0 := by unfold uwI; split <;> (try rw [Nat.zero_mod]) <;> rfl
  have e1' := e1 N (by omega)
  have e2' := e2 N (by omega)
  rw [u0, nI_0] at e1'
  rw [nI_0] at e2'
  refine ⟨nI h', pl', A', ?_, ?_⟩
  · unfold F_X4_hits
    rw [lt_b]
    exact e1'
  · unfold F_X12_goes
    exact e2'
