/-! ===== follows: both sides ===== -/
abbrev lk (late : Rows) (i : Nat) : Int32 := cl (rw' late i) 0
def tbN (late : Rows) (k f : Int32) (m : Nat) : Nat := (List.range m).countP (fun i => decide (lk late i = k) && decide (lk late (i + 1) = f))
theorem tbN_succ (late : Rows) (k f : Int32) (m : Nat) : tbN late k f (m + 1) = tbN late k f m + if lk late m = k ∧ lk late (m + 1) = f then 1 else 0 := by
  unfold tbN
  rw [List.range_succ, List.countP_append, List.countP_cons, List.countP_nil, Nat.zero_add]
  simp only [Bool.and_eq_true, decide_eq_true_eq]
theorem tbN_pos {late : Rows} {k f : Int32} {m i : Nat} (hi : i < m) (h1 : lk late i = k) (h2 : lk late (i + 1) = f) : 0 < tbN late k f m := by
  unfold tbN
  rw [List.countP_pos_iff]
  exact ⟨i, List.mem_range.mpr hi, by rw [decide_eq_true h1, decide_eq_true h2]; rfl⟩
theorem n_timesL {N : Nat} {late : Rows} (hl : late.length < 65536) (k f : Int32) : ∀ (n i : Nat), i ≤ late.length - 1 → late.length - 1 < n + i → L_X2_timesBehind_5 N (fun x3 => some x3) k f late n (nI (tbN late k f i)) (nI (i + 1)) = some (nI (tbN late k f (late.length - 1))) := by
  intro n
  induction n with
  | zero => intro i h1 h2; omega
  | succ n ih =>
    intro i h1 h2
    rw [e_X2_timesBehind_5]
    unfold K_X2_timesBehind_5 J_X2_timesBehind_50
    rw [lt_b]
    by_cases q : i = late.length - 1
    · rw [if_pos (show tsize late ≤ nI (i + 1) from nI_le (by omega) (by omega)), q]
    · have step := ih (i + 1) (by omega) (by omega)
      rw [tbN_succ] at step
      rw [if_neg (show ¬ tsize late ≤ nI (i + 1) from nI_ge (by omega) (by omega)), lt_b, nI_pred, tg i 0 0 rfl (by omega) (by decide), lt_b, tg (i + 1) 0 0 rfl (by omega) (by decide), lt_b, lt_b, lt_b, nI_1, nI_1]
      by_cases q1 : lk late i = k
      · by_cases q2 : lk late (i + 1) = f
        · rw [if_pos q1, if_pos q2]
          rw [if_pos ⟨q1, q2⟩] at step
          exact step
        · rw [if_pos q1, if_neg q2]
          rw [if_neg (fun z => q2 z.2), Nat.add_zero] at step
          exact step
      · rw [if_neg q1]
        rw [if_neg (fun z => q1 z.1), Nat.add_zero] at step
        exact step
theorem n_times {N : Nat} (hN : 65536 ≤ N) {late : Rows} (hl : late.length < 65536) (k f : Int32) : F_X2_timesBehind N late k f = some (nI (tbN late k f (late.length - 1))) := by
  unfold F_X2_timesBehind
  have := n_timesL (N := N) hl k f N 0 (Nat.zero_le _) (by omega)
  exact this
theorem s_late {g : Nat → Int32} {late : Rows} (h : RA g late) {i : Nat} (hi : i < late.length) : g (8607 + i) = kc (lk late i) := by
  have := h.1.2 i 0 (by rw [List.length_map]; exact hi) (by decide)
  rw [show 8607 + i = 8607 + (i * 1 + 0) by omega, this]
  exact congrArg (fun r => List.getD r 0 0) (map_at mT hi)
theorem s_timesL {N : Nat} {g : Nat → Int32} {late : Rows} (h : RA g late) (hk : kOK late) {k : Int32} (hkv : Vk k) {e : Nat} (he : e + 1 < late.length) (k143 : Int32 → Option (Int32 × Int32 × Int32)) (x1 x3 x4 : Int32) (tape : Nat → Int32) (taped spot : Int32) : ∀ (n i : Nat), i ≤ late.length - 1 → late.length - 1 < n + i → L_X12_follows_69 N k143 x1 (kc k) x3 x4 (nI e) g tape taped spot n (nI (tbN late k (lk late (e + 1)) i)) (nI i) = k143 (nI (tbN late k (lk late (e + 1)) (late.length - 1))) := by
  have h60 := h.2
  have hm : g 18 = nI late.length := by rw [h.1.1, List.length_map]
  have vk : ∀ i, i < late.length → Vk (lk late i) := fun i hi => hk _ (mem_at hi)
  have ie : ∀ i : Nat, (8607 : Int32) + nI i = nI (8607 + i) := fun i => nI_add 8607 i
  have ie1 : ∀ i : Nat, nI (8607 + i) + 1 = nI (8607 + (i + 1)) := fun i => nI_1 _
  intro n
  induction n with
  | zero => intro i h1 h2; omega
  | succ n ih =>
    intro i h1 h2
    rw [e_X12_follows_69]
    unfold K_X12_follows_69 J_X12_follows_133 J_X12_follows_134
    rw [gl 18 18 rfl (by decide), hm, nI_1]
    by_cases q : i = late.length - 1
    · rw [if_pos (nI_le (by omega) (by omega)), q]
    · have hi : i + 1 < late.length := by omega
      have step := ih (i + 1) (by omega) (by omega)
      rw [tbN_succ] at step
      rw [if_neg (nI_ge hi (by omega)), ie i, gl _ (8607 + i) rfl (by omega), s_late h (by omega), ie1 i, gl _ (8607 + (i + 1)) rfl (by omega), s_late h hi, ie e, ie1 e, gl _ (8607 + (e + 1)) rfl (by omega), s_late h he]
      simp only [lt_b, nI_1, Int32.add_zero]
      by_cases q1 : lk late i = k
      · rw [if_pos ((kc_inj (vk i (by omega)) hkv).mpr q1)]
        by_cases q2 : lk late (i + 1) = lk late (e + 1)
        · rw [if_pos (by rw [q2])]
          rw [if_pos ⟨q1, q2⟩] at step
          exact step
        · rw [if_neg (fun z => q2 ((kc_inj (vk _ hi) (vk _ he)).mp z))]
          rw [if_neg (fun z => q2 z.2), Nat.add_zero] at step
          exact step
      · rw [if_neg (fun z => q1 ((kc_inj (vk i (by omega)) hkv).mp z))]
        rw [if_neg (fun z => q1 z.1), Nat.add_zero] at step
        exact step
/-- who followed most often so far -/
def foI (late : Rows) (k best : Int32) (most : Nat) : Prop := (best = 0 ∧ most = 0) ∨ (Vk best ∧ 0 < most ∧ most = tbN late k best (late.length - 1))
theorem s_followL {N : Nat} (hN : 65536 ≤ N) {g : Nat → Int32} {late : Rows} (h : RA g late) (hk : kOK late) {k : Int32} (hkv : Vk k) (k174 : Int32 → Int32 → Option (Int32 × Int32 × Int32)) (x1 : Int32) (tape : Nat → Int32) (taped spot : Int32) : ∀ (d i : Nat) (best : Int32) (most : Nat), i + d = late.length - 1 → foI late k best most → ∃ (best' : Int32) (most' : Nat), foI late k best' most' ∧ (∀ n, d < n → L_X2_followerOf_7 N (fun x2 => some x2) k late n best (nI most) (nI (i + 1)) = some best') ∧ ∀ n, d < n → L_X12_follows_31 N k174 x1 (kc k) g tape taped spot n (kc best) (nI most) (nI i) = k174 (kc best') (nI most') := by
  have h60 := h.2
  have hm : g 18 = nI late.length := by rw [h.1.1, List.length_map]
  have vk : ∀ i, i < late.length → Vk (lk late i) := fun i hi => hk _ (mem_at hi)
  have ie : ∀ i : Nat, (8607 : Int32) + nI i = nI (8607 + i) := fun i => nI_add 8607 i
  have ie1 : ∀ i : Nat, nI (8607 + i) + 1 = nI (8607 + (i + 1)) := fun i => nI_1 _
  have tble : ∀ (f : Int32), tbN late k f (late.length - 1) ≤ late.length - 1 := fun f => by
    have : (List.range (late.length - 1)).countP (fun i => decide (lk late i = k) && decide (lk late (i + 1) = f)) ≤ (List.range (late.length - 1)).length := List.countP_le_length
    rw [List.length_range] at this
    exact this
  intro d
  induction d with
  | zero =>
    intro i best most hi hf
    refine ⟨best, most, hf, fun n hn => ?_, fun n hn => ?_⟩
    · obtain ⟨n, rfl⟩ : ∃ q, n = q + 1 := ⟨n - 1, by omega⟩
      rw [e_X2_followerOf_7]
      unfold K_X2_followerOf_7
      rw [lt_b, if_pos (show tsize late ≤ nI (i + 1) from nI_le (by omega) (by omega))]
    · obtain ⟨n, rfl⟩ : ∃ q, n = q + 1 := ⟨n - 1, by omega⟩
      rw [e_X12_follows_31]
      unfold K_X12_follows_31
      rw [gl 18 18 rfl (by decide), hm, nI_1, if_pos (nI_le (by omega) (by omega))]
  | succ d ih =>
    intro i best most hi hf
    have hil : i + 1 < late.length := by omega
    have hmost : most ≤ 60 := by
      rcases hf with ⟨-, z⟩ | ⟨-, -, z⟩
      · omega
      · have := tble best; omega
    by_cases q1 : lk late i = k
    · generalize ht : tbN late k (lk late (i + 1)) (late.length - 1) = t
      have htp : 0 < t := by rw [← ht]; exact tbN_pos (by omega) q1 rfl
      have htl : t ≤ 60 := by have := tble (lk late (i + 1)); omega
      by_cases q2 : t ≤ most
      · obtain ⟨best', most', c0, c1, c2⟩ := ih (i + 1) best most (by omega) hf
        refine ⟨best', most', c0, fun n hn => ?_, fun n hn => ?_⟩
        · obtain ⟨n, rfl⟩ : ∃ q, n = q + 1 := ⟨n - 1, by omega⟩
          rw [e_X2_followerOf_7]
          unfold K_X2_followerOf_7 J_X2_followerOf_75
          rw [lt_b, if_neg (show ¬ tsize late ≤ nI (i + 1) from nI_ge (by omega) (by omega)), lt_b, nI_pred, tg i 0 0 rfl (by omega) (by decide), if_pos q1, lt_b, tg (i + 1) 0 0 rfl (by omega) (by decide), n_times hN (by omega), bd_some, ht, if_pos (nI_le q2 (by omega)), lt_b, nI_1]
          exact c1 n (by omega)
        · obtain ⟨n, rfl⟩ : ∃ q, n = q + 1 := ⟨n - 1, by omega⟩
          rw [e_X12_follows_31]
          unfold K_X12_follows_31 J_X12_follows_168
          rw [gl 18 18 rfl (by decide), hm, nI_1, if_neg (nI_ge hil (by omega)), ie i, gl _ (8607 + i) rfl (by omega), s_late h (by omega), if_pos ((kc_inj (vk i (by omega)) hkv).mpr q1)]
          have tl := s_timesL (N := N) h hk hkv hil (fun x6 => if (x6 ≤ nI most : Prop) then
            lt (nI (i + 1)) (fun x5_10 => L_X12_follows_31 N k174 x1 (kc k) g tape taped spot n (kc best) (nI most) x5_10)
            else
            ld g 8787 (nI (8607 + i) + 1) (fun v_11 =>
            lt (nI (i + 1)) (fun x5_10 => L_X12_follows_31 N k174 x1 (kc k) g tape taped spot n v_11 x6 x5_10))) x1 (kc best) (nI most) tape taped spot N 0 (Nat.zero_le _) (by omega)
          have e0 : nI (tbN late k (lk late (i + 1)) 0) = 0 := rfl
          rw [e0, nI_0] at tl
          refine tl.trans ?_
          rw [ht, if_pos (nI_le q2 (by omega)), lt_b]
          exact c2 n (by omega)
      · obtain ⟨best', most', c0, c1, c2⟩ := ih (i + 1) (lk late (i + 1)) t (by omega) (Or.inr ⟨vk _ hil, htp, ht.symm⟩)
        refine ⟨best', most', c0, fun n hn => ?_, fun n hn => ?_⟩
        · obtain ⟨n, rfl⟩ : ∃ q, n = q + 1 := ⟨n - 1, by omega⟩
          rw [e_X2_followerOf_7]
          unfold K_X2_followerOf_7 J_X2_followerOf_75
          rw [lt_b, if_neg (show ¬ tsize late ≤ nI (i + 1) from nI_ge (by omega) (by omega)), lt_b, nI_pred, tg i 0 0 rfl (by omega) (by decide), if_pos q1, lt_b, tg (i + 1) 0 0 rfl (by omega) (by decide), n_times hN (by omega), bd_some, ht, if_neg (nI_ge (by omega) (by omega)), lt_b, lt_b, nI_1]
          exact c1 n (by omega)
        · obtain ⟨n, rfl⟩ : ∃ q, n = q + 1 := ⟨n - 1, by omega⟩
          rw [e_X12_follows_31]
          unfold K_X12_follows_31 J_X12_follows_168
          rw [gl 18 18 rfl (by decide), hm, nI_1, if_neg (nI_ge hil (by omega)), ie i, gl _ (8607 + i) rfl (by omega), s_late h (by omega), if_pos ((kc_inj (vk i (by omega)) hkv).mpr q1)]
          have tl := s_timesL (N := N) h hk hkv hil (fun x6 => if (x6 ≤ nI most : Prop) then
            lt (nI (i + 1)) (fun x5_10 => L_X12_follows_31 N k174 x1 (kc k) g tape taped spot n (kc best) (nI most) x5_10)
            else
            ld g 8787 (nI (8607 + i) + 1) (fun v_11 =>
            lt (nI (i + 1)) (fun x5_10 => L_X12_follows_31 N k174 x1 (kc k) g tape taped spot n v_11 x6 x5_10))) x1 (kc best) (nI most) tape taped spot N 0 (Nat.zero_le _) (by omega)
          have e0 : nI (tbN late k (lk late (i + 1)) 0) = 0 := rfl
          rw [e0, nI_0] at tl
          refine tl.trans ?_
          rw [ht, if_neg (nI_ge (by omega) (by omega)), ie1 i, gl _ (8607 + (i + 1)) rfl (by omega), s_late h hil, lt_b]
          exact c2 n (by omega)
    · obtain ⟨best', most', c0, c1, c2⟩ := ih (i + 1) best most (by omega) hf
      refine ⟨best', most', c0, fun n hn => ?_, fun n hn => ?_⟩
      · obtain ⟨n, rfl⟩ : ∃ q, n = q + 1 := ⟨n - 1, by omega⟩
        rw [e_X2_followerOf_7]
        unfold K_X2_followerOf_7 J_X2_followerOf_75
        rw [lt_b, if_neg (show ¬ tsize late ≤ nI (i + 1) from nI_ge (by omega) (by omega)), lt_b, nI_pred, tg i 0 0 rfl (by omega) (by decide), if_neg q1, lt_b, nI_1]
        exact c1 n (by omega)
      · obtain ⟨n, rfl⟩ : ∃ q, n = q + 1 := ⟨n - 1, by omega⟩
        rw [e_X12_follows_31]
        unfold K_X12_follows_31 J_X12_follows_168
        rw [gl 18 18 rfl (by decide), hm, nI_1, if_neg (nI_ge hil (by omega)), ie i, gl _ (8607 + i) rfl (by omega), s_late h (by omega), if_neg (fun z => q1 ((kc_inj (vk i (by omega)) hkv).mp z)), lt_b]
        exact c2 n (by omega)
theorem m_follows {N : Nat} (hN : 65536 ≤ N) {c : Nat} {tp : List Nat} {T : Nat → Rows} {V : Nat → Nat → Int32} {g : Nat → Int32} (hs : SQ c tp T V g) {tby : Nat → Int32} {tsz : Int32} {tape : Nat → Int32} {taped : Int32} (ht : TR tp tby tsz tape taped) (spot x : Int32) :
    ∃ (r : Int32) (tp' : List Nat) (tsz' taped' spot' : Int32), F_X11_follows N tby tsz (T 3) x = some (r, tsz') ∧ F_X12_follows N g tape taped spot x = some (r, taped', spot') ∧ TR tp' tby tsz' tape taped' ∧ SQ (c + 1) tp' T V g := by
  unfold F_X11_follows F_X12_follows
  by_cases h2 : -2 ≤ x
  · obtain ⟨k, spot', k1, k2, k3⟩ := take_both hN ht spot
    rw [if_pos h2, if_pos h2, k1, k2, bd_some, bd_some]
    rcases k3 with rfl | ⟨hk, hne⟩
    · exact ⟨-1002, [], 0, 0, spot', by rw [if_pos rfl], by rw [if_pos kc_0], ht.nil, hs.nil⟩
    have hs0 := hs.nil
    obtain ⟨p, q, h, hI, hB, hq⟩ := hs
    have h60 := h.a.2
    rw [if_neg (kc_ne0 hk).1, if_neg (kc_ne0 hk).2]
    obtain ⟨best, most, c0, c1, c2⟩ := s_followL hN h.a hI.i0.2.2.2.2 hk (fun x3 x4 => if (x = ((-1)) : Prop) then
      some (x4, (0 : Int32), spot')
      else
      if (x4 = 0 : Prop) then
      some ((-1003), (0 : Int32), spot')
      else
      if (x = ((-2)) : Prop) then
      J_X12_follows_205 N x3 ((-1)) g tape 0 spot'
      else
      J_X12_follows_205 N x3 x g tape 0 spot') x tape 0 spot' ((T 3).length - 1) 0 0 0 (by omega) (Or.inl ⟨rfl, rfl⟩)
    have c1' : F_X2_followerOf N (T 3) k = some best := c1 N (by omega)
    have c2' := c2 N (by omega)
    rw [kc_0, nI_0] at c2'
    refine (fun (H : ∃ r, _ ∧ _) => ?_ : (∃ r, bd (F_X2_followerOf N (T 3) k) (fun o_2 =>
      if (x = ((-1)) : Prop) then
      if (o_2 = 0 : Prop) then
      some (0, (0 : Int32))
      else
      bd (F_X2_timesBehind N (T 3) k o_2) (fun o_5 =>
      some (o_5, (0 : Int32)))
      else
      if (o_2 = 0 : Prop) then
      some ((-1003), (0 : Int32))
      else
      if (x = ((-2)) : Prop) then
      bd (F_X1_length N o_2) (fun o_4 =>
      some (o_4, (0 : Int32)))
      else
      bd (F_X1_byteAt N o_2 x) (fun o_3 =>
      some (o_3, (0 : Int32)))) = some (r, (0 : Int32)) ∧ (if (x = ((-1)) : Prop) then
      some (nI most, (0 : Int32), spot')
      else
      if (nI most = 0 : Prop) then
      some ((-1003), (0 : Int32), spot')
      else
      if (x = ((-2)) : Prop) then
      J_X12_follows_205 N (kc best) ((-1)) g tape 0 spot'
      else
      J_X12_follows_205 N (kc best) x g tape 0 spot') = some (r, (0 : Int32), spot')) → _) ?_
    · obtain ⟨r, r1, r2⟩ := H
      exact ⟨r, [], 0, 0, spot', r1, by rw [c2']; exact r2, ht.nil, hs0⟩
    · rw [c1', bd_some]
      unfold J_X12_follows_205
      rcases c0 with ⟨z1, z2⟩ | ⟨z1, z2, z3⟩
      · subst z1 z2
        by_cases x1 : x = -1
        · exact ⟨0, by rw [if_pos x1, if_pos rfl], by rw [if_pos x1]; rfl⟩
        · exact ⟨-1003, by rw [if_neg x1, if_pos rfl], by rw [if_neg x1, if_pos (show nI 0 = 0 from rfl)]⟩
      · have hb0 := (kc_ne0 z1).1
        have hml : most ≤ 60 := by
          have : tbN (T 3) k best ((T 3).length - 1) ≤ (List.range ((T 3).length - 1)).length := List.countP_le_length
          rw [List.length_range] at this
          omega
        have hm0 : ¬ nI most = 0 := fun z => by have := (nI_eq (a := most) (b := 0) (by omega) (by omega)).mp z; omega
        by_cases x1 : x = -1
        · exact ⟨nI most, by rw [if_pos x1, if_neg hb0, n_times hN (by omega), bd_some, ← z3], by rw [if_pos x1]⟩
        · by_cases x2 : x = -2
          · obtain ⟨r, r1, r2⟩ := n_len hN z1
            exact ⟨r, by rw [if_neg x1, if_neg hb0, if_pos x2, r1, bd_some], by rw [if_neg x1, if_neg hm0, if_pos x2, r2, bd_some]⟩
          · obtain ⟨r, r1, r2⟩ := n_byt hN z1 (m21 h2 x2) x1
            exact ⟨r, by rw [if_neg x1, if_neg hb0, if_neg x2, r1, bd_some], by rw [if_neg x1, if_neg hm0, if_neg x2, r2, bd_some]⟩
  · exact ⟨-1001, tp, tsz, taped, spot, by rw [if_neg h2], by rw [if_neg h2], ht, hs.up⟩
