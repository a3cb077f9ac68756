/-! ===== who waits: both sides ===== -/
def pW (k x : Int32) (r : List Int32) : Bool := decide (cl r 0 = k) && decide (cl r 1 = x)
def fw (waits : Rows) (k x : Int32) : Option Nat := waits.findIdx? (pW k x)
theorem n_rowOfWaitL {waits : Rows} (hl : waits.length < 65536) (k x : Int32) (N : Nat) : ∀ (n i : Nat), i ≤ waits.length → waits.length < n + i → L_X3_rowOfWait_2 N (fun _ => some (-1)) (fun x3 => some x3) x k waits n (nI i) = some (oI ((fw (waits.drop i) k x).map (fun j => j + i))) := by
  intro n
  induction n with
  | zero => intro i h1 h2; omega
  | succ n ih =>
    intro i h1 h2
    rw [e_X3_rowOfWait_2]
    unfold K_X3_rowOfWait_2 J_X3_rowOfWait_41
    rw [lt_b]
    by_cases q : i = waits.length
    · rw [if_pos (show tsize waits ≤ nI i by rw [q]; exact nI_le (Nat.le_refl _) (by omega)), q, List.drop_length]
      rfl
    · have hi : i < waits.length := by omega
      rw [if_neg (show ¬ tsize waits ≤ nI i from nI_ge hi (by omega)), lt_b, tg i 0 0 rfl (by omega) (by decide), lt_b, tg i 1 1 rfl (by omega) (by decide), lt_b, drop_get hi, nI_1, ih (i + 1) (by omega) (by omega)]
      unfold fw
      rw [List.findIdx?_cons]
      have hs : (fw (waits.drop (i + 1)) k x).map (fun j => j + (i + 1)) = ((fw (waits.drop (i + 1)) k x).map (fun j => j + 1)).map (fun j => j + i) := by
        rw [Option.map_map]
        refine Option.map_congr (fun j _ => ?_)
        show j + (i + 1) = j + 1 + i
        omega
      unfold fw at hs
      by_cases q0 : cl (rw' waits i) 0 = k
      · by_cases q1 : cl (rw' waits i) 1 = x
        · have e : pW k x (waits.getD i []) = true := by unfold pW; rw [decide_eq_true (show cl (waits.getD i []) 0 = k from q0), decide_eq_true (show cl (waits.getD i []) 1 = x from q1)]; rfl
          rw [if_pos q0, if_pos q1, e, if_pos rfl]
          show some (nI i) = some (nI (0 + i))
          rw [Nat.zero_add]
        · have e : pW k x (waits.getD i []) = false := by unfold pW; rw [decide_eq_false (show ¬ cl (waits.getD i []) 1 = x from q1), Bool.and_false]
          rw [if_pos q0, if_neg q1, e, if_neg (by decide), hs]
      · have e : pW k x (waits.getD i []) = false := by unfold pW; rw [decide_eq_false (show ¬ cl (waits.getD i []) 0 = k from q0), Bool.false_and]
        rw [if_neg q0, e, if_neg (by decide), hs]
theorem n_rowOfWait {N : Nat} (hN : 65536 ≤ N) {waits : Rows} (hl : waits.length < 65536) (k x : Int32) : F_X3_rowOfWait N waits x k = some (oI (fw waits k x)) := by
  unfold F_X3_rowOfWait
  have := n_rowOfWaitL hl k x N N 0 (by omega) (by omega)
  rw [nI_0, List.drop_zero] at this
  rw [this]
  congr 2
  cases fw waits k x <;> rfl
def fx (l : List Int32) (x : Int32) : Option Nat := l.findIdx? (fun y => decide (y = x))
theorem s_waiterOfL {g : Nat → Int32} {line waits : Rows} (h : RL g line waits) {l : Nat} (hl : l < line.length) {k : Int32} (hk : cl (rw' line l) 0 = k) (x : Int32) (N : Nat) : ∀ (n i : Nat), i ≤ (wl waits k).length → (wl waits k).length < n + i → L_X12_waiterOf_2 N (fun _ => some (-1)) (fun x3 => some x3) (nI l) x g n (nI i) = some (oI ((fx ((wl waits k).drop i) x).map (fun j => j + i))) := by
  have q := LR16 h hl
  rw [hk] at q
  have h16 := q.1
  intro n
  induction n with
  | zero => intro i h1 h2; omega
  | succ n ih =>
    intro i h1 h2
    rw [e_X12_waiterOf_2]
    unfold K_X12_waiterOf_2
    rw [q.2.2.1, bd_some]
    by_cases q1 : i = (wl waits k).length
    · rw [if_pos (by rw [q1]; exact nI_le (Nat.le_refl _) (by omega)), q1, List.drop_length]
      rfl
    · have hi : i < (wl waits k).length := by omega
      have e4 : (4 : Int32) + nI i = nI (4 + i) := nI_add 4 i
      rw [if_neg (nI_ge hi (by omega)), e4, q.2.2.2.2.2 i hi, bd_some, lt_b, nI_1, ih (i + 1) (by omega) (by omega), List.drop_eq_getElem_cons hi]
      unfold fx
      rw [List.findIdx?_cons, q_getD_lt hi]
      by_cases q2 : (wl waits k)[i] = x
      · rw [if_pos q2, decide_eq_true q2, if_pos rfl]
        show some (nI i) = some (nI (0 + i))
        rw [Nat.zero_add]
      · rw [if_neg q2, decide_eq_false q2, if_neg (by decide), Option.map_map]
        congr 2
        refine Option.map_congr (fun j _ => ?_)
        show j + (i + 1) = j + 1 + i
        omega
theorem s_waiterOf {N : Nat} (hN : 65536 ≤ N) {g : Nat → Int32} {line waits : Rows} (h : RL g line waits) {l : Nat} (hl : l < line.length) {k : Int32} (hk : cl (rw' line l) 0 = k) (x : Int32) : F_X12_waiterOf N g (nI l) x = some (oI (fx (wl waits k) x)) := by
  have h16 := (LR16 h hl).1
  rw [hk] at h16
  unfold F_X12_waiterOf
  have := s_waiterOfL h hl hk x N N 0 (by omega) (by omega)
  rw [nI_0, List.drop_zero] at this
  rw [this]
  congr 2
  cases fx (wl waits k) x <;> rfl
theorem fw_none {waits : Rows} {k x : Int32} : fw waits k x = none ↔ ¬ x ∈ wl waits k := by
  unfold fw
  rw [List.findIdx?_eq_none_iff]
  constructor
  · intro h hm
    obtain ⟨r, hr, e⟩ := List.mem_map.mp hm
    obtain ⟨h1, h2⟩ := List.mem_filter.mp hr
    have := h r h1
    unfold pW at this
    rw [show decide (cl r 0 = k) = true from h2, decide_eq_true (show cl r 1 = x from e)] at this
    exact absurd this (by decide)
  · intro h r hr
    unfold pW
    by_cases q0 : cl r 0 = k
    · by_cases q1 : cl r 1 = x
      · refine absurd ?_ h
        rw [← q1]
        exact List.mem_map.mpr ⟨r, List.mem_filter.mpr ⟨hr, decide_eq_true q0⟩, rfl⟩
      · rw [decide_eq_false q1, Bool.and_false]
    · rw [decide_eq_false q0, Bool.false_and]
theorem fx_none {l : List Int32} {x : Int32} : fx l x = none ↔ ¬ x ∈ l := by
  unfold fx
  rw [List.findIdx?_eq_none_iff]
  constructor
  · intro h hm
    have := h x hm
    rw [decide_eq_true rfl] at this
    exact absurd this (by decide)
  · intro h y hy
    exact decide_eq_false (fun e => h (by rw [← e]; exact hy))
theorem nodup_len : ∀ (n : Nat) (l : List Int32), l.Nodup → (∀ x ∈ l, ∃ a, a < n ∧ x = nI a) → l.length ≤ n
  | 0, l, _, h => by
    cases l with
    | nil => exact Nat.le_refl _
    | cons x xs => obtain ⟨a, ha, -⟩ := h x List.mem_cons_self; omega
  | n + 1, l, hd, h => by
    have h2 : ∀ x ∈ l.erase (nI n), ∃ a, a < n ∧ x = nI a := by
      intro x hx
      obtain ⟨h3, h4⟩ := (List.Nodup.mem_erase_iff hd).mp hx
      obtain ⟨a, ha, rfl⟩ := h x h4
      refine ⟨a, ?_, rfl⟩
      by_cases q : a = n
      · exact absurd (by rw [q]) h3
      · omega
    have h5 := nodup_len n (l.erase (nI n)) (hd.erase _) h2
    by_cases q : nI n ∈ l
    · rw [List.length_erase_of_mem q] at h5; omega
    · rw [List.erase_of_not_mem q] at h5; omega
theorem wl_nodup {waits : Rows} (h : iU waits) (k : Int32) : (wl waits k).Nodup := by
  unfold wl List.Nodup
  rw [List.pairwise_map]
  have h1 : (waits.filter (fun r => decide (r.getD 0 0 = k))).Pairwise (fun r q => ¬ (cl r 0 = cl q 0 ∧ cl r 1 = cl q 1)) := h.sublist List.filter_sublist
  refine h1.imp_of_mem (fun {r q} hr hq hrq e => hrq ⟨?_, e⟩)
  have a1 := (List.mem_filter.mp hr).2
  have a2 := (List.mem_filter.mp hq).2
  have b1 : cl r 0 = k := by simpa using a1
  have b2 : cl q 0 = k := by simpa using a2
  rw [b1, b2]
theorem iU_push {waits : Rows} (h : iU waits) {k x : Int32} (hx : ¬ x ∈ wl waits k) : iU (waits ++ [[k, x]]) := by
  unfold iU
  rw [List.pairwise_append]
  refine ⟨h, List.pairwise_singleton _ _, fun r hr q hq => ?_⟩
  rw [List.mem_singleton.mp hq]
  rintro ⟨e1, e2⟩
  have e1' : cl r 0 = k := e1
  have e2' : cl r 1 = x := e2
  refine hx ?_
  rw [← e2']
  exact List.mem_map.mpr ⟨r, List.mem_filter.mpr ⟨hr, decide_eq_true e1'⟩, rfl⟩
theorem gD_app {α : Type} {l r : List α} {j : Nat} {d : α} (h : j < l.length) : (l ++ r).getD j d = l.getD j d := by
  rw [q_getD_lt h, q_getD_lt (by rw [List.length_append]; omega), List.getElem_append_left h]
theorem gD_last {α : Type} {l : List α} {x : α} {j : Nat} {d : α} (h : j = l.length) : (l ++ [x]).getD j d = x := by
  subst h
  rw [q_getD_lt (by rw [List.length_append, List.length_singleton]; omega), List.getElem_append_right (Nat.le_refl _)]
  simp
theorem len20 {q : List Int32} {i j : Nat} {x y : Int32} (h : q.length = 20) : ((q.set i x).set j y).length = 20 := by rw [List.length_set, List.length_set, h]
theorem s_joined {T : Nat → Rows} {V : Nat → Nat → Int32} {g : Nat → Int32} (h : RR T V g) (hI : iL (T 6)) {l : Nat} (hl : l < (T 6).length) {k : Int32} (hk : cl (rw' (T 6) l) 0 = k) (x : Int32) {m : Nat} (hm : (wl (T 7) k).length = m) (h15 : m < 16) :
    RR (va_up T 7 (T 7 ++ [[k, x]])) V (upd (upd g (2003 + (l * 20 + (4 + m))) x) (2003 + (l * 20 + 3)) (nI (m + 1))) := by
  obtain ⟨lr, hG, hlen, h256, hLR⟩ := h.2.2.2.2.2.2.1
  have q := hLR l hl
  have hl20 : (rw' lr l).length = 20 := q.2.2.2.2.2.2
  have hll : l < lr.length := by omega
  have hk' : (List.getD (T 6) l []).getD 0 0 = k := hk
  have G1 := hG.set (Or.inl (by decide)) hll (j := 4 + m) (by omega) hl20 x
  have G2 := G1.set (Or.inl (by decide)) (i := l) (by rw [List.length_modify]; exact hll) (j := 3) (by omega) (by rw [modD hll, if_pos rfl, List.length_set, hl20]) (nI (m + 1))
  have e := h.uRL (b := T 6) (c := T 7 ++ [[k, x]]) (g' := upd (upd g (2003 + (l * 20 + (4 + m))) x) (2003 + (l * 20 + 3)) (nI (m + 1))) ⟨_, G2, ?_, h256, fun i hi => ?_⟩ (fun p hp hq => ?_)
  · rw [va_same T 6] at e
    exact e
  · rw [List.length_modify, List.length_modify, hlen]
  · have hil : i < lr.length := by omega
    have e0 : ((lr.modify l (fun r => r.set (4 + m) x)).modify l (fun r => r.set 3 (nI (m + 1)))).getD i [] = if i = l then ((lr.getD i []).set (4 + m) x).set 3 (nI (m + 1)) else lr.getD i [] := by
      have a1 := modD (rows := lr.modify l (fun r => r.set (4 + m) x)) (i := l) (k := i) (f := fun r => r.set 3 (nI (m + 1))) (by rw [List.length_modify]; exact hil)
      have a2 := modD (rows := lr) (i := l) (k := i) (f := fun r => r.set (4 + m) x) hil
      refine a1.trans ?_
      rw [a2]
      by_cases z : i = l
      · rw [if_pos z, if_pos z, if_pos z]
      · rw [if_neg z, if_neg z, if_neg z]
    rw [e0]
    have qi := hLR i hi
    by_cases z : i = l
    · subst z
      rw [if_pos rfl]
      unfold LR at qi ⊢
      rw [hk'] at qi ⊢
      rw [wl_push, if_pos rfl, List.length_append, List.length_singleton, hm]
      rw [hm] at qi
      have l20 : (List.getD lr i []).length = 20 := hl20
      have gd : ∀ j, j < 20 → (((List.getD lr i []).set (4 + m) x).set 3 (nI (m + 1))).getD j 0 = if j = 3 then nI (m + 1) else if j = 4 + m then x else (List.getD lr i []).getD j 0 := by
        intro j hj
        rw [q_setD (by rw [List.length_set, l20]; exact hj), q_setD (by rw [l20]; exact hj)]
      refine ⟨?_, ?_, fun h1 => ?_, ?_, by omega, fun j hj => ?_, len20 l20⟩
      · rw [gd 0 (by decide), if_neg (by decide), if_neg (by omega)]; exact qi.1
      · rw [gd 1 (by decide), if_neg (by decide), if_neg (by omega)]; exact qi.2.1
      · rw [gd 2 (by decide), if_neg (by decide), if_neg (by omega)]; exact qi.2.2.1 h1
      · rw [gd 3 (by decide), if_pos rfl]
      · rw [gd (4 + j) (by omega), if_neg (by omega)]
        by_cases z2 : j = m
        · subst z2
          rw [if_pos rfl, gD_last hm.symm]
        · rw [if_neg (by omega), gD_app (by omega)]
          exact qi.2.2.2.2.2.1 j (by omega)
    · rw [if_neg z]
      have hne : ¬ (List.getD (T 6) i []).getD 0 0 = k := by rw [← hk]; exact row_key hI hl hi z
      unfold LR at qi ⊢
      rw [wl_push, if_neg hne]
      exact qi
  · rw [upd_ne (by omega), upd_ne (by omega)]
