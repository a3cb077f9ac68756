/-! ===== other rules: a row of keys is asked for: both sides ===== -/
def qR (q r : Qr) : Prop := ¬ qs q = qs r ∧ ¬ qk q = qk r ∧ ¬ ql q = ql r ∧ qm q < qm r
theorem PR_iff {A : Ar} {t n : Nat} {Q : List Qr} : PR A t n Q ↔ Q.length ≤ n ∧ (∀ i, i < Q.length → qs (qAt Q i) < Q.length ∧ QA A t (qAt Q i)) ∧ ∀ i j, i < j → j < Q.length → qR (qAt Q i) (qAt Q j) := by
  unfold PR
  rw [List.pairwise_iff_getElem]
  refine ⟨fun h => ⟨h.1, fun i hi => h.2.1 _ (qAt_mem hi), fun i j hij hj => ?_⟩, fun h => ⟨h.1, fun q hq => ?_, fun i j hi hj hij => ?_⟩⟩
  · rw [show qAt Q i = Q[i] from q_getD_lt (by omega), show qAt Q j = Q[j] from q_getD_lt hj]
    exact h.2.2 i j (by omega) hj hij
  · obtain ⟨i, hi, rfl⟩ := List.getElem_of_mem hq
    have := h.2.1 i hi
    rw [show qAt Q i = Q[i] from q_getD_lt hi] at this
    exact this
  · have := h.2.2 i j hij hj
    rw [show qAt Q i = Q[i] from q_getD_lt hi, show qAt Q j = Q[j] from q_getD_lt hj] at this
    exact this
theorem gset {α : Type} {l : List α} {k j : Nat} {x d : α} (hj : j < l.length) : (l.set k x).getD j d = if j = k then x else l.getD j d := by
  rw [q_getD_lt (by rw [List.length_set]; exact hj), q_getD_lt hj, List.getElem_set]
  by_cases q : j = k
  · rw [if_pos q, if_pos q.symm]
  · rw [if_neg q, if_neg (fun z => q z.symm)]
theorem QA_up {A B : Ar} {t : Nat} {q : Qr} (h : QA A t q) (e1 : B.1 (qs q) = A.1 (qs q)) (e2 : B.2.1 (qs q) = A.2.1 (qs q)) (e3 : B.2.2.1 (qs q) = A.2.2.1 (qs q)) (e4 : B.2.2.2 (qs q) = A.2.2.2 (qs q)) : QA B (t + 1) q := by
  obtain ⟨h1, h2, h3, h4, h5, h6, h7, h8⟩ := h
  exact ⟨h1, by rw [e1]; exact h2, by rw [e2]; exact h3, by rw [e3]; exact h4, by rw [e4]; exact h5, by omega, by omega, by omega⟩
theorem PR_hit {A : Ar} {t n : Nat} {Q : List Qr} (h : PR A t n Q) {i : Nat} (hi : i < Q.length) : PR (A.1, upd A.2.1 (qs (qAt Q i)) (nI (qc (qAt Q i) + 1)), upd A.2.2.1 (qs (qAt Q i)) (nI t), A.2.2.2) (t + 1) n (Q.set i (qs (qAt Q i), qk (qAt Q i), qc (qAt Q i) + 1, t, qm (qAt Q i))) := by
  obtain ⟨h1, h2, h3⟩ := PR_iff.mp h
  rw [PR_iff, List.length_set]
  have sl : ∀ j, j < Q.length → j ≠ i → ¬ qs (qAt Q j) = qs (qAt Q i) := fun j hj hne => by
    rcases Nat.lt_or_gt_of_ne hne with z | z
    · exact (h3 j i z hi).1
    · exact fun y => (h3 i j z hj).1 y.symm
  refine ⟨h1, fun j hj => ?_, fun a b hab hb => ?_⟩
  · show qs ((Q.set i _).getD j _) < _ ∧ QA _ _ ((Q.set i _).getD j _)
    rw [gset hj]
    by_cases z : j = i
    · rw [if_pos z]
      obtain ⟨g0, g1, g2, g3, g4, g5, g6, g7, g8⟩ := h2 i hi
      refine ⟨g0, g1, g2, ?_, ?_, g5, ?_, ?_, ?_⟩
      · show upd A.2.1 _ _ _ = _
        rw [upd_at]
      · show upd A.2.2.1 _ _ _ = _
        rw [upd_at]
      · show qc (qAt Q i) + 1 ≤ t + 1; omega
      · show t < t + 1; omega
      · show qm (qAt Q i) < t + 1; omega
    · rw [if_neg z]
      refine ⟨(h2 j hj).1, QA_up (h2 j hj).2 rfl ?_ ?_ rfl⟩
      · exact upd_ne (sl j hj z)
      · exact upd_ne (sl j hj z)
  · show qR ((Q.set i _).getD a _) ((Q.set i _).getD b _)
    rw [gset (show a < Q.length by omega), gset hb]
    have r := h3 a b hab hb
    by_cases za : a = i
    · rw [if_pos za, if_neg (by omega)]
      rw [za] at r
      refine ⟨r.1, r.2.1, fun z => ?_, r.2.2.2⟩
      have := (h2 b hb).2.2.2.2.2.2.2.1
      have z' : t = ql (qAt Q b) := z
      omega
    · rw [if_neg za]
      by_cases zb : b = i
      · rw [if_pos zb]
        rw [zb] at r
        refine ⟨r.1, r.2.1, fun z => ?_, r.2.2.2⟩
        have := (h2 a (by omega)).2.2.2.2.2.2.2.1
        have z' : ql (qAt Q a) = t := z
        omega
      · rw [if_neg zb]; exact r
theorem PR_new {A : Ar} {t n : Nat} {Q : List Qr} (h : PR A t n Q) (hl : Q.length < n) {k : Int32} (hk : Vk k) (hnew : ∀ q ∈ Q, ¬ qk q = k) : PR (upd A.1 Q.length (kc k), upd A.2.1 Q.length 1, upd A.2.2.1 Q.length (nI t), upd A.2.2.2 Q.length (nI t)) (t + 1) n (Q ++ [(Q.length, k, 1, t, t)]) := by
  obtain ⟨h1, h2, h3⟩ := PR_iff.mp h
  have hlen : (Q ++ [(Q.length, k, 1, t, t)]).length = Q.length + 1 := by rw [List.length_append, List.length_singleton]
  rw [PR_iff, hlen]
  refine ⟨hl, fun j hj => ?_, fun a b hab hb => ?_⟩
  · by_cases z : j = Q.length
    · have e : qAt (Q ++ [(Q.length, k, 1, t, t)]) j = (Q.length, k, 1, t, t) := gD_last z
      rw [e]
      refine ⟨Nat.lt_succ_self _, hk, ?_, ?_, ?_, ?_, ?_, Nat.lt_succ_self _, Nat.lt_succ_self _⟩
      · exact upd_at _ _ _
      · exact upd_at _ _ _
      · exact upd_at _ _ _
      · exact upd_at _ _ _
      · show 1 ≤ t + 1; omega
    · have hj' : j < Q.length := by omega
      have e : qAt (Q ++ [(Q.length, k, 1, t, t)]) j = qAt Q j := gD_app hj'
      rw [e]
      have := (h2 j hj').1
      exact ⟨by omega, QA_up (h2 j hj').2 (upd_ne (by omega)) (upd_ne (by omega)) (upd_ne (by omega)) (upd_ne (by omega))⟩
  · have ea : qAt (Q ++ [(Q.length, k, 1, t, t)]) a = qAt Q a := gD_app (by omega)
    rw [ea]
    by_cases z : b = Q.length
    · have e : qAt (Q ++ [(Q.length, k, 1, t, t)]) b = (Q.length, k, 1, t, t) := gD_last z
      rw [e]
      have g := h2 a (by omega)
      refine ⟨?_, hnew _ (qAt_mem (by omega)), ?_, g.2.2.2.2.2.2.2.2⟩
      · show ¬ qs (qAt Q a) = Q.length
        have := g.1; omega
      · show ¬ ql (qAt Q a) = t
        have := g.2.2.2.2.2.2.2.1; omega
    · have e : qAt (Q ++ [(Q.length, k, 1, t, t)]) b = qAt Q b := gD_app (by omega)
      rw [e]
      exact h3 a b hab (by omega)
theorem PR_swap {A : Ar} {t n : Nat} {Q : List Qr} (h : PR A t n Q) {i : Nat} (hi : i < Q.length) {k : Int32} (hk : Vk k) (hnew : ∀ q ∈ Q, ¬ qk q = k) : PR (upd A.1 (qs (qAt Q i)) (kc k), upd A.2.1 (qs (qAt Q i)) 1, upd A.2.2.1 (qs (qAt Q i)) (nI t), upd A.2.2.2 (qs (qAt Q i)) (nI t)) (t + 1) n (Q.eraseIdx i ++ [(qs (qAt Q i), k, 1, t, t)]) := by
  obtain ⟨h1, h2, h3⟩ := PR_iff.mp h
  have hel : (Q.eraseIdx i).length = Q.length - 1 := List.length_eraseIdx_of_lt hi
  have hlen : (Q.eraseIdx i ++ [(qs (qAt Q i), k, 1, t, t)]).length = Q.length := by rw [List.length_append, List.length_singleton, hel]; omega
  have sl : ∀ j, j < Q.length → j ≠ i → ¬ qs (qAt Q j) = qs (qAt Q i) := fun j hj hne => by
    rcases Nat.lt_or_gt_of_ne hne with z | z
    · exact (h3 j i z hi).1
    · exact fun y => (h3 i j z hj).1 y.symm
  -- where a row that stays came from
  have from' : ∀ j, j < Q.length - 1 → ∃ j', j' < Q.length ∧ j' ≠ i ∧ qAt (Q.eraseIdx i ++ [(qs (qAt Q i), k, 1, t, t)]) j = qAt Q j' ∧ j' = if j < i then j else j + 1 := fun j hj => by
    have e : qAt (Q.eraseIdx i ++ [(qs (qAt Q i), k, 1, t, t)]) j = if j < i then qAt Q j else qAt Q (j + 1) := (gD_app (by omega)).trans q_erD
    by_cases z : j < i
    · rw [if_pos z] at e
      exact ⟨j, by omega, by omega, e, by rw [if_pos z]⟩
    · rw [if_neg z] at e
      exact ⟨j + 1, by omega, by omega, e, by rw [if_neg z]⟩
  rw [PR_iff, hlen]
  refine ⟨h1, fun j hj => ?_, fun a b hab hb => ?_⟩
  · by_cases z : j = Q.length - 1
    · have e : qAt (Q.eraseIdx i ++ [(qs (qAt Q i), k, 1, t, t)]) j = (qs (qAt Q i), k, 1, t, t) := gD_last (by rw [hel]; exact z)
      rw [e]
      refine ⟨(h2 i hi).1, hk, ?_, ?_, ?_, ?_, ?_, Nat.lt_succ_self _, Nat.lt_succ_self _⟩
      · exact upd_at _ _ _
      · exact upd_at _ _ _
      · exact upd_at _ _ _
      · exact upd_at _ _ _
      · show 1 ≤ t + 1; omega
    · obtain ⟨j', hj', hne, e, -⟩ := from' j (by omega)
      rw [e]
      have s := sl j' hj' hne
      exact ⟨(h2 j' hj').1, QA_up (h2 j' hj').2 (upd_ne s) (upd_ne s) (upd_ne s) (upd_ne s)⟩
  · obtain ⟨a', ha', hna, ea, ea2⟩ := from' a (by omega)
    rw [ea]
    by_cases z : b = Q.length - 1
    · have e : qAt (Q.eraseIdx i ++ [(qs (qAt Q i), k, 1, t, t)]) b = (qs (qAt Q i), k, 1, t, t) := gD_last (by rw [hel]; exact z)
      rw [e]
      have g := h2 a' ha'
      refine ⟨sl a' ha' hna, hnew _ (qAt_mem ha'), ?_, g.2.2.2.2.2.2.2.2⟩
      show ¬ ql (qAt Q a') = t
      have := g.2.2.2.2.2.2.2.1; omega
    · obtain ⟨b', hb', hnb, eb, eb2⟩ := from' b (by omega)
      rw [eb]
      refine h3 a' b' ?_ hb'
      by_cases za : a < i <;> by_cases zb : b < i
      · rw [if_pos za] at ea2; rw [if_pos zb] at eb2; omega
      · rw [if_pos za] at ea2; rw [if_neg zb] at eb2; omega
      · rw [if_neg za] at ea2; rw [if_pos zb] at eb2; omega
      · rw [if_neg za] at ea2; rw [if_neg zb] at eb2; omega
/-! halving -/
def qh (q : Qr) : Qr := (qs q, qk q, qc q / 2, ql q, qm q)
def hvA (o : Nat) (c : Nat → Int32) : Nat → Int32 := fun s => if s < o then c s / 2 else c s
theorem hvA_step (o : Nat) (c : Nat → Int32) : upd (hvA o c) o (hvA o c o / 2) = hvA (o + 1) c := by
  funext s
  by_cases z : s = o
  · rw [z, upd_at]
    unfold hvA
    rw [if_neg (Nat.lt_irrefl _), if_pos (Nat.lt_succ_self _)]
  · rw [upd_ne z]
    unfold hvA
    by_cases y : s < o
    · rw [if_pos y, if_pos (by omega)]
    · rw [if_neg y, if_neg (by omega)]
theorem gD_mid {α : Type} {A B : List α} {x d : α} {i : Nat} (h : i = A.length) : (A ++ x :: B).getD i d = x := by
  subst h
  rw [q_getD_lt (by simp), List.getElem_append_right (Nat.le_refl _)]
  simp
theorem mod_mid {α : Type} {B : List α} {x : α} {f : α → α} : ∀ {A : List α} {i : Nat}, i = A.length → (A ++ x :: B).modify i f = A ++ f x :: B
  | [], i, h => by subst h; rfl
  | a :: A, i, h => by
    subst h
    show a :: (A ++ x :: B).modify A.length f = _
    rw [mod_mid rfl]
    rfl
theorem n_hvL {N : Nat} (Q : List Qr) (hl : Q.length ≤ 12) (hc : ∀ q ∈ Q, qc q < 65536) : ∀ (f i : Nat), i ≤ Q.length → Q.length < f + i → L_X4_halveCounts_2 N (fun places => some places) f (nI i) (((Q.take i).map qh ++ Q.drop i).map qRow) = some ((Q.map qh).map qRow) := by
  intro f
  induction f with
  | zero => intro i h1 h2; omega
  | succ f ih =>
    intro i h1 h2
    rw [e_X4_halveCounts_2]
    unfold K_X4_halveCounts_2
    have tl : ((Q.take i).map qh).length = i := by rw [List.length_map, List.length_take]; omega
    have hlen : (((Q.take i).map qh ++ Q.drop i).map qRow).length = Q.length := by rw [List.length_map, List.length_append, tl, List.length_drop]; omega
    have es : tsize (((Q.take i).map qh ++ Q.drop i).map qRow) = nI Q.length := by unfold tsize; rw [hlen]
    rw [lt_b, es]
    by_cases q : i = Q.length
    · rw [if_pos (nI_le (by omega) (by omega)), q, List.take_length, List.drop_length, List.append_nil]
    · have hi : i < Q.length := by omega
      have dg : Q.drop i = Q[i] :: Q.drop (i + 1) := List.drop_eq_getElem_cons hi
      have row : rw' (((Q.take i).map qh ++ Q.drop i).map qRow) i = qRow Q[i] := by
        rw [dg, List.map_append, List.map_cons]
        exact gD_mid (by rw [List.length_map, tl])
      have e2 : cl (qRow Q[i]) 1 / 2 = nI (qc Q[i] / 2) := by
        have := hc _ (List.getElem_mem hi)
        exact pk_div (a := qc Q[i]) (d := 2) (by omega) (by decide) (by decide)
      rw [if_neg (nI_ge hi (by omega)), lt_b, tg i 1 1 rfl (by omega) (by decide), row, e2, lt_b, tset_nI (by omega) 1 1 rfl (by decide), lt_b, nI_1]
      have step := ih (i + 1) (by omega) (by omega)
      have em : (((Q.take i).map qh ++ Q.drop i).map qRow).modify i (fun r => r.set 1 (nI (qc Q[i] / 2))) = ((Q.take (i + 1)).map qh ++ Q.drop (i + 1)).map qRow := by
        have ek : ((Q.take (i + 1)).map qh) = (Q.take i).map qh ++ [qh Q[i]] := by
          rw [List.take_succ_eq_append_getElem hi, List.map_append]
          rfl
        rw [ek, dg, List.map_append, List.map_append, List.map_append, List.map_cons]
        rw [mod_mid (by rw [List.length_map, tl]), List.append_assoc]
        rfl
      rw [em]
      exact step
theorem n_hv {N : Nat} (hN : 65536 ≤ N) (Q : List Qr) (hl : Q.length ≤ 12) (hc : ∀ q ∈ Q, qc q < 65536) : F_X4_halveCounts N (Q.map qRow) = some ((Q.map qh).map qRow) := by
  unfold F_X4_halveCounts
  have := n_hvL (N := N) Q hl hc N 0 (Nat.zero_le _) (by omega)
  rw [List.take_zero, List.drop_zero] at this
  exact this
theorem PR_hv {A : Ar} {t n : Nat} {Q : List Qr} (h : PR A t n Q) (ht : t < 65536) : PR (A.1, hvA Q.length A.2.1, A.2.2.1, A.2.2.2) t n (Q.map qh) := by
  refine ⟨by rw [List.length_map]; exact h.1, fun q hq => ?_, ?_⟩
  · obtain ⟨r, hr, rfl⟩ := List.mem_map.mp hq
    obtain ⟨g0, g1, g2, g3, g4, g5, g6, g7, g8⟩ := h.2.1 r hr
    rw [List.length_map]
    refine ⟨g0, g1, g2, ?_, g4, g5, ?_, g7, g8⟩
    · show hvA Q.length A.2.1 (qs r) = nI (qc r / 2)
      unfold hvA
      rw [if_pos g0, g3]
      exact pk_div (a := qc r) (d := 2) (by omega) (by decide) (by decide)
    · show qc r / 2 ≤ t
      omega
  · rw [List.pairwise_map]
    exact h.2.2
def uwI (rule w t : Nat) : Int32 := if rule = 3 then nI (t % w) else nI t
theorem s_hvL {N : Nat} {w t m : Nat} (hw : 0 < w) (hw5 : w ≤ 500) (ht : t < 65536) (hm : m ≤ 12) {g : Nat → Int32} (hg : g 1 = nI w) (hz : (t + 1) % w = 0) (kk : (Nat → Int32) → (Option (Int32 × (Nat → Int32) × (Nat → Int32) × (Nat → Int32) × (Nat → Int32)))) (x2 x4 : Int32) (asked : Nat → Int32) (am : Int32) (there lasts cames c : Nat → Int32) : ∀ (f o : Nat), o ≤ m → m < f + o → L_X12_goes_165 N kk 3 x2 (nI m) x4 (nI t) g asked am there lasts cames f (nI o) (hvA o c) = kk (hvA m c) := by
  intro f
  induction f with
  | zero => intro o h1 h2; omega
  | succ f ih =>
    intro o h1 h2
    rw [e_X12_goes_165]
    unfold K_X12_goes_165
    by_cases q : o = m
    · rw [if_pos (nI_le (by omega) (by omega)), q]
    · have hrem : irm (nI (t + 1)) (nI w) = nI ((t + 1) % w) := pk_rem (by omega) hw (by omega)
      have hwne : ¬ nI w = 0 := fun z => by have := (nI_eq (a := w) (b := 0) (by omega) (by omega)).mp z; omega
      rw [if_neg (nI_ge (by omega) (by omega)), if_pos rfl, gl 1 1 rfl (by decide), hg, ck_t hwne, nI_1, hrem, hz, if_pos nI_0, ldn (k := o) rfl (by omega), ston (k := o) rfl (by omega), hvA_step, lt_b, nI_1]
      exact ih (o + 1) (by omega) (by omega)
/-- behind a use: the window -/
theorem s_tail {N : Nat} (hN : 65536 ≤ N) {A : Ar} {t n rule w : Nat} {Q : List Qr} (h : PR A (t + 1) n Q) (hn : n ≤ 12) (ht : t < 60) (hr : rule < 4) (hw : 0 < w) (hw5 : w ≤ 500) {g : Nat → Int32} (hg : g 1 = nI w) :
    ∃ (A2 : Ar) (Q2 : List Qr), PR A2 (t + 1) n Q2 ∧ Q2.length = Q.length ∧ A2.1 = A.1 ∧ A2.2.2 = A.2.2 ∧ (∀ (dm dw : Nat) (rec : Int32 → Int32 → Int32 → Rows → Option (Int32 × Rows)) (k157 : Int32 → Rows → Option (Int32 × Rows)) (x3 x5 : Int32) (keys : Rows), J_X4_hits_129 N dm dw rec k157 (nI rule) x3 (nI w) x5 (uwI rule w t) (nI t) (Q.map qRow) keys = rec x5 (uwI rule w (t + 1)) (nI (t + 1)) (Q2.map qRow)) ∧ ∀ (kk : (Nat → Int32) → (Option (Int32 × (Nat → Int32) × (Nat → Int32) × (Nat → Int32) × (Nat → Int32)))) (x2 x4 : Int32) (asked : Nat → Int32) (am : Int32), L_X12_goes_165 N kk (nI rule) x2 (nI Q.length) x4 (nI t) g asked am A.1 A.2.2.1 A.2.2.2 N 0 A.2.1 = kk A2.2.1 := by
  have hl := h.1
  obtain ⟨M, rfl⟩ : ∃ M, N = M + 1 := ⟨N - 1, by omega⟩
  by_cases r3 : rule = 3
  · subst r3
    have hrem : irm (nI (t + 1)) (nI w) = nI ((t + 1) % w) := pk_rem (by omega) hw (by omega)
    have hwne : ¬ nI w = 0 := fun z => by have := (nI_eq (a := w) (b := 0) (by omega) (by omega)).mp z; omega
    have u1 : uwI 3 w t = nI (t % w) := if_pos rfl
    have u2 : uwI 3 w (t + 1) = nI ((t + 1) % w) := if_pos rfl
    have hmw := Nat.mod_lt t hw
    rcases mod_step (n := t) hw with ⟨m1, m2⟩ | ⟨m1, m2, m3⟩
    · refine ⟨_, _, PR_hv h (by omega), List.length_map _, rfl, rfl, fun dm dw rec k157 x3 x5 keys => ?_, fun kk x2 x4 asked am => ?_⟩
      · unfold J_X4_hits_129 J_X4_hits_151
        rw [u1, u2, m2, lt_b, nI_1, if_pos (show nI 3 = 3 from rfl), if_neg (show ¬ nI (t % w + 1) < nI w from Int32.not_lt.mpr (nI_le m1 (by omega))), n_hv hN Q (by omega) (fun q hq => by have := (h.2.1 q hq).2.2.2.2.2.2.1; omega), bd_some, lt_b, nI_1]
        rfl
      · have := s_hvL (N := M + 1) hw hw5 (by omega) (show Q.length ≤ 12 by omega) hg m2 kk x2 x4 asked am A.1 A.2.2.1 A.2.2.2 A.2.1 (M + 1) 0 (Nat.zero_le _) (by omega)
        have e0 : hvA 0 A.2.1 = A.2.1 := by funext s; unfold hvA; rw [if_neg (Nat.not_lt_zero _)]
        rw [e0, nI_0] at this
        exact this
    · refine ⟨A, Q, h, rfl, rfl, rfl, fun dm dw rec k157 x3 x5 keys => ?_, fun kk x2 x4 asked am => ?_⟩
      · unfold J_X4_hits_129 J_X4_hits_151
        rw [u1, u2, m2, lt_b, nI_1, if_pos (show nI 3 = 3 from rfl), if_pos (nI_lt m1 (by omega)), lt_b, nI_1]
      · rw [e_X12_goes_165]
        unfold K_X12_goes_165
        by_cases q : nI Q.length ≤ 0
        · rw [if_pos q]
        · rw [if_neg q, if_pos (show nI 3 = 3 from rfl), gl 1 1 rfl (by decide), hg, ck_t hwne, nI_1, hrem, if_neg (show ¬ nI ((t + 1) % w) = 0 from fun z => m3 ((nI_eq (a := (t + 1) % w) (b := 0) (by omega) (by omega)).mp z))]
  · have n3 : ¬ nI rule = 3 := fun z => r3 ((nI_eq (b := 3) (by omega) (by decide)).mp z)
    have u1 : uwI rule w t = nI t := if_neg r3
    have u2 : uwI rule w (t + 1) = nI (t + 1) := if_neg r3
    refine ⟨A, Q, h, rfl, rfl, rfl, fun dm dw rec k157 x3 x5 keys => ?_, fun kk x2 x4 asked am => ?_⟩
    · unfold J_X4_hits_129 J_X4_hits_151
      rw [u1, u2, lt_b, nI_1, if_neg n3, lt_b]
    · rw [e_X12_goes_165]
      unfold K_X12_goes_165
      by_cases q : nI Q.length ≤ 0
      · rw [if_pos q]
      · rw [if_neg q, if_neg n3]
