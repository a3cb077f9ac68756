/-! ===== replay, replayed: both sides ===== -/
/-- keys parted by single blanks; letters so far, the last one first -/
def pz : List Nat → List Nat → Option (List (List Nat))
  | cur, [] => if cur = [] then none else some [cur]
  | cur, b :: bs => if b = 32 then (if cur = [] then none else (pz [] bs).map (fun l => cur :: l)) else if 6 ≤ cur.length then none else pz ((b - 96) :: cur) bs
def okB2 (l : List Nat) : Prop := ∀ b ∈ l, b = 32 ∨ (97 ≤ b ∧ b ≤ 122)
def okL (l : List (List Nat)) : Prop := ∀ c ∈ l, Lk c ∧ c ≠ []
theorem Lk_cons {cur : List Nat} (h : Lk cur) {b : Nat} (hb : 97 ≤ b ∧ b ≤ 122) (hl : cur.length < 6) : Lk ((b - 96) :: cur) := by
  refine ⟨fun x hx => ?_, by rw [List.length_cons]; omega⟩
  rcases List.mem_cons.mp hx with z | z
  · omega
  · exact h.1 x z
theorem pk_z {cur : List Nat} (h : Lk cur) : pk cur = 0 ↔ cur = [] := by
  constructor
  · intro z
    rw [← pk_nil] at z
    exact (pk_inj h ⟨fun x hx => absurd hx List.not_mem_nil, Nat.zero_le _⟩).mp z
  · rintro rfl; exact pk_nil
theorem Lk_nil : Lk [] := ⟨fun x hx => absurd hx List.not_mem_nil, Nat.zero_le _⟩
theorem n_tkL {N : Nat} (hN : 65536 ≤ N) {tp : List Nat} {tby : Nat → Int32} {tsz : Int32} {tape : Nat → Int32} {taped : Int32} (T : TR tp tby tsz tape taped) : ∀ (d i f : Nat) (cur : List Nat) (keys : Rows), i + d = tp.length → d < f → Lk cur → 2 * keys.length + (if cur = [] then 0 else 1) ≤ i →
    (pz cur (tp.drop i) = none ∧ ∃ rk', L_X10_takeKeys_19 N 30 1 (fun x3 keys => J_X10_takeKeys_95 N 30 1 x3 tby 0 keys) (fun keys => some (0, (0 : Int32), keys)) (fun keys => some (0, (0 : Int32), keys)) tsz tby 0 f (pk cur) (nI i) keys = some (0, 0, rk')) ∨ (∃ l, pz cur (tp.drop i) = some l ∧ okL l ∧ 2 * (keys.length + l.length) ≤ 60 ∧ L_X10_takeKeys_19 N 30 1 (fun x3 keys => J_X10_takeKeys_95 N 30 1 x3 tby 0 keys) (fun keys => some (0, (0 : Int32), keys)) (fun keys => some (0, (0 : Int32), keys)) tsz tby 0 f (pk cur) (nI i) keys = some (1, 0, keys ++ l.map (fun c => [pk c]))) := by
  obtain ⟨h60, es, et, hc⟩ := T
  intro d
  induction d with
  | zero =>
    intro i f cur keys hi hf hcur hinv
    obtain ⟨f, rfl⟩ : ∃ q, f = q + 1 := ⟨f - 1, by omega⟩
    have ei : i = tp.length := by omega
    rw [e_X10_takeKeys_19]
    unfold K_X10_takeKeys_19 J_X10_takeKeys_95
    rw [es, if_pos (nI_le (by omega) (by omega)), ei, List.drop_length]
    dsimp only
    rw [lt_b, tpush1]
    by_cases z : cur = []
    · left
      exact ⟨by unfold pz; rw [if_pos z], _, by rw [if_pos ((pk_z hcur).mpr z)]⟩
    · right
      rw [if_neg z] at hinv
      refine ⟨[cur], by unfold pz; rw [if_neg z], fun c hc => ?_, by rw [List.length_singleton]; omega, ?_⟩
      · rw [List.mem_singleton.mp hc]; exact ⟨hcur, z⟩
      · rw [if_neg (fun y => z ((pk_z hcur).mp y)), keep_lt (by omega)]
        rfl
  | succ d ih =>
    intro i f cur keys hi hf hcur hinv
    obtain ⟨f, rfl⟩ : ∃ q, f = q + 1 := ⟨f - 1, by omega⟩
    have hil : i < tp.length := by omega
    obtain ⟨c1, c2, c3⟩ := hc i hil
    have dg : tp.drop i = tp.getD i 0 :: tp.drop (i + 1) := drop_getD hil
    rw [e_X10_takeKeys_19]
    unfold K_X10_takeKeys_19 J_X10_takeKeys_89
    have es' : tsz = nI tp.length := es
    rw [dg]
    have step := fun cur' keys' => ih (i + 1) f cur' keys' (by omega) (by omega)
    rw [show (if tsz ≤ nI i then (fun x3 keys => J_X10_takeKeys_95 N 30 1 x3 tby 0 keys) (pk cur) keys else _) = _ from if_neg (by rw [es']; exact nI_ge hil (by omega)), if_neg (show ¬ nI 60 ≤ nI i from nI_ge (by omega) (by decide)), ldn (k := i) rfl (by omega), c1]
    simp only [lt_b, nI_1]
    by_cases b32 : tp.getD i 0 = 32
    · have e32 : nI (tp.getD i 0) = 32 := by rw [b32]; rfl
      rw [if_pos e32]
      by_cases z : cur = []
      · left
        refine ⟨by unfold pz; rw [if_pos b32, if_pos z], _, by rw [if_pos ((pk_z hcur).mpr z)]⟩
      · rw [if_neg (fun y => z ((pk_z hcur).mp y)), tpush1]
        rw [if_neg z] at hinv
        have hk30 : keepR 30 keys = keys := keep_lt (by omega)
        rw [hk30]
        have := step [] (keys ++ [[pk cur]]) Lk_nil (by rw [List.length_append, List.length_singleton, if_pos rfl]; omega)
        rw [pk_nil] at this
        rcases this with ⟨p1, rk', p2⟩ | ⟨l, p1, p2, p3, p4⟩
        · left
          exact ⟨by unfold pz; rw [if_pos b32, if_neg z, p1]; rfl, rk', p2⟩
        · right
          refine ⟨cur :: l, by unfold pz; rw [if_pos b32, if_neg z, p1]; rfl, fun c hc => ?_, ?_, ?_⟩
          · rcases List.mem_cons.mp hc with y | y
            · rw [y]; exact ⟨hcur, z⟩
            · exact p2 c y
          · rw [List.length_append, List.length_singleton] at p3
            rw [List.length_cons]; omega
          · rw [p4, List.append_assoc]
            rfl
    · have hlet : 97 ≤ tp.getD i 0 ∧ tp.getD i 0 ≤ 122 := by
        rcases c3 with y | y
        · exact absurd y b32
        · exact y
      have e32 : ¬ nI (tp.getD i 0) = 32 := fun y => b32 ((nI_eq (b := 32) (by omega) (by decide)).mp y)
      have h6 := hcur.2
      rw [if_neg e32, k_length hN hcur, bd_some]
      by_cases z : 6 ≤ cur.length
      · left
        refine ⟨by unfold pz; rw [if_neg b32, if_pos z], keys, by rw [if_neg (show ¬ nI cur.length < 6 from Int32.not_lt.mpr (nI_le (a := 6) z (by omega)))]⟩
      · rw [if_pos (show nI cur.length < (6 : Int32) from nI_lt (b := 6) (by omega) (by decide)), ldn (k := i) rfl (by omega), c1, k_with hcur (by omega) hlet, bd_some]
        have := step ((tp.getD i 0 - 96) :: cur) keys (Lk_cons hcur hlet (by omega)) (by
          rw [if_neg (by intro y; cases y)]
          split at hinv <;> omega)
        rcases this with ⟨p1, rk', p2⟩ | ⟨l, p1, p2, p3, p4⟩
        · left
          exact ⟨by rw [show pz cur (tp.getD i 0 :: tp.drop (i + 1)) = pz ((tp.getD i 0 - 96) :: cur) (tp.drop (i + 1)) by conv => lhs; unfold pz; rw [if_neg b32, if_neg z]]; exact p1, rk', p2⟩
        · right
          exact ⟨l, by rw [show pz cur (tp.getD i 0 :: tp.drop (i + 1)) = pz ((tp.getD i 0 - 96) :: cur) (tp.drop (i + 1)) by conv => lhs; unfold pz; rw [if_neg b32, if_neg z]]; exact p1, p2, p3, p4⟩
/-! the reference's reading -/
theorem pz_run : ∀ (ls cur rest : List Nat), (∀ b ∈ ls, 97 ≤ b ∧ b ≤ 122) → cur.length + ls.length ≤ 6 → pz cur (ls ++ rest) = pz (lets ls ++ cur) rest
  | [], cur, rest, _, _ => rfl
  | b :: bs, cur, rest, h, hl => by
    rw [List.length_cons] at hl
    have hb := h b List.mem_cons_self
    have ih := pz_run bs ((b - 96) :: cur) rest (fun x hx => h x (List.mem_cons_of_mem _ hx)) (by rw [List.length_cons]; omega)
    have e : lets (b :: bs) ++ cur = lets bs ++ (b - 96) :: cur := by
      unfold lets
      simp
    rw [e, ← ih]
    show pz cur (b :: (bs ++ rest)) = _
    conv => lhs; unfold pz
    rw [if_neg (by omega), if_neg (by omega)]
theorem lets_nil {bs : List Nat} : lets bs = [] ↔ bs = [] := by
  constructor
  · intro h
    have := lets_len bs
    rw [h] at this
    exact List.eq_nil_of_length_eq_zero this.symm
  · rintro rfl; rfl
theorem runL_stop : ∀ {l : List Nat}, runL l < 6 → ∀ {b : Nat} {bs : List Nat}, l.drop (runL l) = b :: bs → isL b = false := by
  intro l h b bs hd
  have hr : runL l = (l.takeWhile isL).length := by
    unfold runL at h ⊢
    rw [List.length_take] at h ⊢
    omega
  rw [hr] at hd
  have h2 : l = l.takeWhile isL ++ l.dropWhile isL := (List.takeWhile_append_dropWhile).symm
  have h3 : l.drop (l.takeWhile isL).length = l.dropWhile isL := by
    conv => lhs; rw [h2]
    rw [List.drop_left' (by rw [← h2])]
  rw [h3] at hd
  have := List.head?_dropWhile_not isL l
  rw [hd] at this
  simpa using this
theorem rk_lets {c : List Nat} (h : Lk c) (hne : c ≠ []) : kc (pk c) = rk c ∧ Vk (pk c) ∧ ¬ rk c = 0 := by
  have kr : KR (pk c) (rk c) := ⟨c, h, hne, rfl, rfl⟩
  exact ⟨kc_eq kr, ⟨_, kr⟩, kr.ne0.2⟩
theorem s_rpL {N : Nat} (hN : 65536 ≤ N) {tp : List Nat} {tby : Nat → Int32} {tsz : Int32} {tape : Nat → Int32} {taped : Int32} (T : TR tp tby tsz tape taped) (k164 : Int32 → Int32 → (Nat → Int32) → Int32 → (Option (Int32 × Int32 × Int32 × (Nat → Int32) × Int32 × (Nat → Int32) × (Nat → Int32) × (Nat → Int32) × (Nat → Int32)))) (x1 x2 : Int32) (g there counts lasts cames : Nat → Int32) : ∀ (d fr f m : Nat) (spot : Int32) (asked : Nat → Int32), fr + d = tp.length → d + 2 ≤ f → 2 * m ≤ fr →
    (pz [] (tp.drop fr) = none ∧ ∃ spot' asked' am', L_X12_replay_25 N k164 x1 x2 g tape taped there counts lasts cames f (nI fr) 1 1 spot asked (nI m) = k164 0 spot' asked' am') ∨ (∃ l, pz [] (tp.drop fr) = some l ∧ ∃ spot' asked', L_X12_replay_25 N k164 x1 x2 g tape taped there counts lasts cames f (nI fr) 1 1 spot asked (nI m) = k164 1 spot' asked' (nI (m + l.length)) ∧ (∀ j, j < m → asked' j = asked j) ∧ ∀ j, j < l.length → asked' (m + j) = rk (l.getD j [])) := by
  have T' := id T
  obtain ⟨h60, es, et, hc⟩ := T'
  intro d
  induction d using Nat.strongRecOn with
  | ind d ih =>
    intro fr f m spot asked hfr hf hm
    obtain ⟨f, rfl⟩ : ∃ q, f = q + 2 := ⟨f - 2, by omega⟩
    have ka := k_keyAt hN T fr (by omega) spot
    generalize hrl : runL (tp.drop fr) = r at ka
    obtain ⟨r6, rl⟩ := runL_le (tp.drop fr)
    rw [hrl] at r6 rl
    rw [List.length_drop] at rl
    have lmem : ∀ b ∈ (tp.drop fr).take r, 97 ≤ b ∧ b ≤ 122 := by rw [← hrl]; exact runL_mem _
    have tlen : ((tp.drop fr).take r).length = r := by rw [List.length_take, List.length_drop]; omega
    generalize hcl : lets ((tp.drop fr).take r) = cur at ka
    have hcur : Lk cur := by rw [← hcl]; exact Lk_lets lmem (by rw [tlen]; exact r6)
    have clen : cur.length = r := by rw [← hcl, lets_len, tlen]
    have pzc : pz [] (tp.drop fr) = pz cur (tp.drop (fr + r)) := by
      conv => lhs; rw [← List.take_append_drop r (tp.drop fr)]
      rw [pz_run _ [] _ lmem (by rw [tlen]; show 0 + r ≤ 6; omega), hcl, List.append_nil, List.drop_drop]
    -- a run that ends badly
    have bad : ∀ (x3 : Int32) (x5 sp : Int32) (as : Nat → Int32) (am : Int32), L_X12_replay_25 N k164 x1 x2 g tape taped there counts lasts cames (f + 1) x3 0 x5 sp as am = k164 0 sp as am := fun x3 x5 sp as am => by
      rw [e_X12_replay_25]
      unfold K_X12_replay_25
      rw [if_pos rfl]
    have good : ∀ (x3 : Int32) (sp : Int32) (as : Nat → Int32) (am : Int32), L_X12_replay_25 N k164 x1 x2 g tape taped there counts lasts cames (f + 1) x3 1 0 sp as am = k164 1 sp as am := fun x3 sp as am => by
      rw [e_X12_replay_25]
      unfold K_X12_replay_25
      rw [if_neg one_ne, if_pos rfl]
    have e2 : L_X12_replay_25 N k164 x1 x2 g tape taped there counts lasts cames (f + 2) (nI fr) 1 1 spot asked (nI m) = K_X12_replay_25 N (L_X12_replay_25 N k164 x1 x2 g tape taped there counts lasts cames (f + 1)) k164 x1 x2 g tape taped there counts lasts cames (nI fr) 1 1 spot asked (nI m) := rfl
    rw [e2]
    unfold K_X12_replay_25
    rw [if_neg one_ne, if_neg one_ne, ka, bd_some]
    by_cases hcn : cur = []
    · -- no key stands there
      left
      have hr0 : r = 0 := by rw [← clen, hcn]; rfl
      refine ⟨?_, ?_⟩
      · rw [pzc, hcn, hr0, Nat.add_zero]
        cases hd : tp.drop fr with
        | nil => unfold pz; rw [if_pos rfl]
        | cons b bs =>
          have hstop := runL_stop (l := tp.drop fr) (by rw [hrl]; omega) (b := b) (bs := bs) (by rw [hrl, hr0]; exact hd)
          have hfl : fr < tp.length := by
            have : (tp.drop fr).length = bs.length + 1 := by rw [hd]; rfl
            rw [List.length_drop] at this
            omega
          have hb := (hc fr hfl).2.2
          have hbe : b = tp.getD fr 0 := by
            have := drop_getD hfl
            rw [hd] at this
            exact (List.cons.inj this).1
          rw [← hbe] at hb
          have b32 : b = 32 := by
            rcases hb with y | y
            · exact y
            · unfold isL at hstop
              rw [decide_eq_true y] at hstop
              cases hstop
          unfold pz
          rw [if_pos b32, if_pos rfl]
      · rw [hcn, rk_nil, if_pos rfl]
        unfold J_X12_replay_52 J_X12_replay_80 J_X12_replay_96 J_X12_replay_126 J_X12_replay_127 J_X12_replay_158 J_X12_replay_159
        rw [if_pos rfl, if_pos rfl, if_pos rfl]
        simp only [lt_b, if_true]
        refine ⟨nI (fr + r), asked, nI m, ?_⟩
        by_cases z : taped ≤ nI (fr + r)
        · rw [if_pos z]; exact bad _ _ _ _ _
        · rw [if_neg z]; exact bad _ _ _ _ _
    · have hr1 : 1 ≤ r := by
        rw [← clen]
        cases cur with
        | nil => exact absurd rfl hcn
        | cons a as => rw [List.length_cons]; omega
      have hrk : ¬ rk cur = 0 := (rk_lets hcur hcn).2.2
      have hm60 : m < 60 := by omega
      rw [if_neg hrk]
      unfold J_X12_replay_52 J_X12_replay_80 J_X12_replay_96
      rw [if_neg one_ne, ston (k := m) rfl (by omega), lt_b, nI_1, if_neg one_ne, if_pos rfl, if_neg one_ne, if_neg one_ne]
      have asm : upd asked m (rk cur) m = rk cur := upd_at _ _ _
      have aso : ∀ j, j < m → upd asked m (rk cur) j = asked j := fun j hj => upd_ne (by omega)
      by_cases hend : fr + r = tp.length
      · -- the tape ends behind it
        right
        refine ⟨[cur], ?_, nI (fr + r), upd asked m (rk cur), ?_, aso, fun j hj => ?_⟩
        · rw [pzc, hend, List.drop_length]
          unfold pz
          rw [if_neg hcn]
        · rw [et, if_pos (nI_le (by omega) (by omega))]
          unfold J_X12_replay_122 J_X12_replay_127 J_X12_replay_154 J_X12_replay_159
          rw [lt_b, if_neg one_ne, if_pos rfl, ← et]
          exact good (nI (fr + r) + 1) (nI (fr + r)) (upd asked m (rk cur)) (nI (m + 1))
        · rw [List.length_singleton] at hj
          rw [show j = 0 by omega]
          exact asm
      · have hlt : fr + r < tp.length := by omega
        obtain ⟨c1, c2, c3⟩ := hc (fr + r) hlt
        have dg : tp.drop (fr + r) = tp.getD (fr + r) 0 :: tp.drop (fr + r + 1) := drop_getD hlt
        rw [et, if_neg (nI_ge hlt (by omega)), ldn (k := fr + r) rfl (by omega), c2]
        unfold J_X12_replay_122 J_X12_replay_126 J_X12_replay_127 J_X12_replay_154 J_X12_replay_158 J_X12_replay_159
        simp only [lt_b, nI_1]
        rw [if_pos trivial, if_neg one_ne, if_neg one_ne]
        by_cases b32 : tp.getD (fr + r) 0 = 32
        · rw [if_pos (show nI (tp.getD (fr + r) 0) = 32 by rw [b32]; rfl)]
          by_cases hlast : fr + r + 1 = tp.length
          · left
            refine ⟨?_, nI (fr + r), upd asked m (rk cur), nI (m + 1), by rw [if_pos (by rw [hlast])]; rw [← et]; exact bad _ _ _ _ _⟩
            rw [pzc, dg]
            unfold pz
            rw [if_pos b32, if_neg hcn, hlast, List.drop_length]
            unfold pz
            rw [if_pos rfl]
            rfl
          · rw [if_neg (fun y => hlast ((nI_eq (by omega) (by omega)).mp y))]
            have pze : pz [] (tp.drop fr) = (pz [] (tp.drop (fr + r + 1))).map (fun l => cur :: l) := by
              rw [pzc, dg]
              conv => lhs; unfold pz
              rw [if_pos b32, if_neg hcn]
            rcases ih (tp.length - (fr + r + 1)) (by omega) (fr + r + 1) (f + 1) (m + 1) (nI (fr + r)) (upd asked m (rk cur)) (by omega) (by omega) (by omega) with ⟨p1, s', a', m', p2⟩ | ⟨l, p1, s', a', p2, p3, p4⟩
            · left
              exact ⟨by rw [pze, p1]; rfl, s', a', m', by rw [et] at p2; exact p2⟩
            · right
              refine ⟨cur :: l, by rw [pze, p1]; rfl, s', a', ?_, fun j hj => ?_, fun j hj => ?_⟩
              · rw [List.length_cons, show m + (l.length + 1) = m + 1 + l.length by omega]
                rw [et] at p2
                exact p2
              · rw [p3 j (by omega), aso j hj]
              · cases j with
                | zero => rw [Nat.add_zero, p3 m (by omega), asm]; rfl
                | succ j =>
                  rw [List.length_cons] at hj
                  rw [show m + (j + 1) = m + 1 + j by omega, p4 j (by omega), List.getD_cons_succ]
        · left
          have e32 : ¬ nI (tp.getD (fr + r) 0) = 32 := fun y => b32 ((nI_eq (b := 32) (by omega) (by decide)).mp y)
          refine ⟨?_, nI (fr + r), upd asked m (rk cur), nI (m + 1), by rw [if_neg e32, ← et]; exact bad _ _ _ _ _⟩
          have hlet : 97 ≤ tp.getD (fr + r) 0 ∧ tp.getD (fr + r) 0 ≤ 122 := by
            rcases c3 with y | y
            · exact absurd y b32
            · exact y
          have r6' : r = 6 := by
            by_cases z : r < 6
            · have := runL_stop (l := tp.drop fr) (by rw [hrl]; exact z) (b := tp.getD (fr + r) 0) (bs := tp.drop (fr + r + 1)) (by rw [hrl, List.drop_drop]; exact dg)
              unfold isL at this
              rw [decide_eq_true hlet] at this
              cases this
            · omega
          rw [pzc, dg]
          unfold pz
          rw [if_neg b32, if_pos (by omega)]
theorem n_isRp (x y : Int32) : (F_X11_isReplay x y = some 0 ∧ F_X12_isReplay x y = some 0) ∨ (F_X11_isReplay x y = some 1 ∧ F_X12_isReplay x y = some 1 ∧ ∃ r n, r < 4 ∧ x = nI r ∧ 1 ≤ n ∧ n ≤ 12 ∧ y = nI n) := by
  unfold F_X11_isReplay F_X12_isReplay
  rcases in01 x 0 3 with ⟨b1, b2⟩ | ⟨b1, b2, b3⟩
  · left
    refine ⟨?_, by rw [b1, bd_some, if_pos rfl]⟩
    by_cases h1 : x < 0
    · rw [if_pos h1]
    · rw [if_neg h1, if_pos (Int32.not_le.mp (fun z => b2 ⟨Int32.not_lt.mp h1, z⟩))]
  rw [b1, bd_some, if_neg one_ne, if_neg (Int32.not_lt.mpr b2), if_neg (Int32.not_lt.mpr b3)]
  rcases in01 y 1 12 with ⟨d1, d2⟩ | ⟨d1, d2, d3⟩
  · left
    refine ⟨?_, by rw [d1, bd_some, if_pos rfl]⟩
    by_cases h1 : y < 1
    · rw [if_pos h1]
    · rw [if_neg h1, if_pos (Int32.not_le.mp (fun z => d2 ⟨Int32.not_lt.mp h1, z⟩))]
  · right
    obtain ⟨r, hr, er⟩ := nI_ofx (M := 3) (n := 3) rfl b2 b3
    obtain ⟨n, hn, en⟩ := nI_ofx (M := 12) (n := 12) rfl (Int32.le_trans (by decide) d2) d3
    have hn1 : 1 ≤ n := by rw [en] at d2; exact (nI_leI (a := 1) (by omega) (by omega)).mp d2
    exact ⟨by rw [if_neg (Int32.not_lt.mpr d2), if_neg (Int32.not_lt.mpr d3)], by rw [d1, bd_some, if_neg one_ne], r, n, by omega, er, hn1, hn, en⟩
theorem m_replay {N : Nat} (hN : 65536 ≤ N) {c : Nat} {tp : List Nat} {T : Nat → Rows} {V : Nat → Nat → Int32} {g : Nat → Int32} (hs : SQ c tp T V g) {tby : Nat → Int32} {tsz : Int32} {tape : Nat → Int32} {taped : Int32} (ht : TR tp tby tsz tape taped) (spot : Int32) (rok places : Rows) (asked : Nat → Int32) (am : Int32) (there counts lasts cames : Nat → Int32) (x y : Int32) :
    ∃ (r tsz' : Int32) (rok' places' : Rows) (taped' spot' : Int32) (asked' : Nat → Int32) (am' : Int32) (A' : Ar) (tp' : List Nat), F_X11_replay N tby tsz rok places (V 0) x y = some (r, tsz', rok', places') ∧ F_X12_replay N g tape taped spot asked am there counts lasts cames x y = some (r, taped', spot', asked', am', A'.1, A'.2.1, A'.2.2.1, A'.2.2.2) ∧ TR tp' tby tsz' tape taped' ∧ SQ (c + 1) tp' T V g := by
  unfold F_X11_replay F_X12_replay
  rcases n_isRp x y with ⟨a1, a2⟩ | ⟨a1, a2, rule, n, hr, rfl, hn1, hn, rfl⟩
  · exact ⟨-1001, tsz, rok, places, taped, spot, asked, am, (there, counts, lasts, cames), tp, by rw [a1, bd_some, if_pos rfl], by rw [a2, bd_some, if_pos rfl], ht, hs.up⟩
  have hs0 := hs.nil
  obtain ⟨p, q, h, hI, hB, hq⟩ := hs
  obtain ⟨q1, -, -, -, -, n0, w, -, hw, hw5, -, q10, -, -⟩ := h.z
  have hg1 : g 1 = nI w := by rw [q1 1 (by decide)]; exact q10
  have h60 := ht.1
  rw [a1, a2, bd_some, bd_some, if_neg one_ne, if_neg one_ne, lt_b]
  have cls := n_tkL hN ht tp.length 0 N [] [] (by omega) (by omega) Lk_nil (by rw [if_pos rfl]; exact Nat.zero_le _)
  have ref := s_rpL hN ht (fun x4 spot asked askedMany => J_X12_replay_164 N (nI rule) (nI n) x4 g tape taped spot asked askedMany there counts lasts cames) (nI rule) (nI n) g there counts lasts cames tp.length 0 N 0 spot asked (by omega) (by omega) (by omega)
  rw [List.drop_zero, pk_nil, nI_0] at cls
  rw [List.drop_zero, nI_0] at ref
  have ctk : F_X10_takeKeys N 30 1 tby tsz rok = L_X10_takeKeys_19 N 30 1 (fun x3 keys => J_X10_takeKeys_95 N 30 1 x3 tby 0 keys) (fun keys => some (0, (0 : Int32), keys)) (fun keys => some (0, (0 : Int32), keys)) tsz tby 0 N 0 0 [] := rfl
  rcases cls with ⟨p1, rk', p2⟩ | ⟨l, p1, p2, p3, p4⟩
  · rcases ref with ⟨-, s', a', m', r2⟩ | ⟨l, r1, -⟩
    · refine ⟨-1002, 0, rk', places, 0, s', a', m', (there, counts, lasts, cames), [], by rw [ctk, p2, bd_some, if_pos rfl], ?_, ht.nil, hs0⟩
      rw [r2]
      unfold J_X12_replay_164
      rw [lt_b, if_pos rfl]
    · rw [p1] at r1; cases r1
  · rcases ref with ⟨r1, -⟩ | ⟨l', r1, s', a', r2, -, r4⟩
    · rw [p1] at r1; cases r1
    · have : l = l' := by rw [p1] at r1; exact Option.some.inj r1
      subst this
      rw [List.nil_append] at p4
      rw [Nat.zero_add] at r2
      have hlen : (l.map (fun c => [pk c])).length = l.length := List.length_map _
      rw [show (([] : Rows).length + l.length) = l.length from Nat.zero_add _] at p3
      have row : ∀ t, t < l.length → cl (rw' (l.map (fun c => [pk c])) t) 0 = pk (l.getD t []) := fun t ht => by
        have e : rw' (l.map (fun c => [pk c])) t = [pk (l.getD t [])] := by
          show (l.map (fun c => [pk c])).getD t [] = _
          rw [q_getD_lt (by rw [hlen]; exact ht), List.getElem_map, q_getD_lt ht]
        rw [e]
        rfl
      have okt : ∀ t, t < l.length → Lk (l.getD t []) ∧ l.getD t [] ≠ [] := fun t ht => by
        rw [q_getD_lt ht]
        exact p2 _ (List.getElem_mem ht)
      obtain ⟨r, pl', A', c1, c2⟩ := s_hits hN hn1 hn hr hw hw5 hg1 (KS := l.map (fun c => [pk c])) (by rw [hlen]; omega) (fun q hq => by
        obtain ⟨c, hc, rfl⟩ := List.mem_map.mp hq
        exact (rk_lets (p2 c hc).1 (p2 c hc).2).2.1) (asked := a') (fun t ht => by
        rw [hlen] at ht
        have := r4 t ht
        rw [Nat.zero_add] at this
        rw [this, row t ht, (rk_lets (okt t ht).1 (okt t ht).2).1]) 30 1 places there counts lasts cames
      rw [hlen] at c2
      refine ⟨r, 0, l.map (fun c => [pk c]), pl', 0, s', a', nI l.length, A', [], ?_, ?_, ht.nil, hs0⟩
      · rw [ctk, p4, bd_some, if_neg one_ne, n_value 1 1 rfl (by decide), bd_some, q10]
        rw [c1, bd_some]
      · rw [r2]
        unfold J_X12_replay_164
        rw [lt_b, if_neg one_ne, c2, bd_some]
theorem s_lateL {N : Nat} {g : Nat → Int32} {late : Rows} (h : RA g late) (k55 : (Nat → Int32) → (Option (Int32 × (Nat → Int32) × Int32 × (Nat → Int32) × (Nat → Int32) × (Nat → Int32) × (Nat → Int32)))) (x1 x2 : Int32) (there counts lasts cames : Nat → Int32) : ∀ (d i f : Nat) (asked : Nat → Int32), i + d = late.length → d < f → (∀ j, j < i → asked j = kc (lk late j)) → ∃ asked', L_X12_replayed_25 N k55 x1 x2 g (nI late.length) there counts lasts cames f (nI i) asked = k55 asked' ∧ ∀ j, j < late.length → asked' j = kc (lk late j) := by
  have h60 := h.2
  intro d
  induction d with
  | zero =>
    intro i f asked hi hf ha
    obtain ⟨f, rfl⟩ : ∃ q, f = q + 1 := ⟨f - 1, by omega⟩
    refine ⟨asked, ?_, fun j hj => ha j (by omega)⟩
    rw [e_X12_replayed_25]
    unfold K_X12_replayed_25
    rw [if_pos (nI_le (by omega) (by omega))]
  | succ d ih =>
    intro i f asked hi hf ha
    obtain ⟨f, rfl⟩ : ∃ q, f = q + 1 := ⟨f - 1, by omega⟩
    have ie : (8607 : Int32) + nI i = nI (8607 + i) := nI_add 8607 i
    obtain ⟨a', c1, c2⟩ := ih (i + 1) f (upd asked i (kc (lk late i))) (by omega) (by omega) (fun j hj => by
      by_cases z : j = i
      · rw [z, upd_at]
      · rw [upd_ne z]; exact ha j (by omega))
    refine ⟨a', ?_, c2⟩
    rw [e_X12_replayed_25]
    unfold K_X12_replayed_25
    rw [if_neg (nI_ge (by omega) (by omega)), ie, gl _ (8607 + i) rfl (by omega), s_late h (by omega), ston (k := i) rfl (by omega), lt_b, nI_1]
    exact c1
theorem m_replayed {N : Nat} (hN : 65536 ≤ N) {c : Nat} {tp : List Nat} {T : Nat → Rows} {V : Nat → Nat → Int32} {g : Nat → Int32} (hs : SQ c tp T V g) (places : Rows) (asked : Nat → Int32) (am : Int32) (there counts lasts cames : Nat → Int32) (x y : Int32) :
    ∃ (r : Int32) (places' : Rows) (asked' : Nat → Int32) (am' : Int32) (A' : Ar), F_X11_replayed N places (V 0) (T 3) x y = some (r, places') ∧ F_X12_replayed N g asked am there counts lasts cames x y = some (r, asked', am', A'.1, A'.2.1, A'.2.2.1, A'.2.2.2) := by
  unfold F_X11_replayed F_X12_replayed
  rcases n_isRp x y with ⟨a1, a2⟩ | ⟨a1, a2, rule, n, hr, rfl, hn1, hn, rfl⟩
  · exact ⟨-1001, places, asked, am, (there, counts, lasts, cames), by rw [a1, bd_some, if_pos rfl], by rw [a2, bd_some, if_pos rfl]⟩
  obtain ⟨p, q, h, hI, hB, hq⟩ := hs
  obtain ⟨q1, -, -, -, -, n0, w, -, hw, hw5, -, q10, -, -⟩ := h.z
  have hg1 : g 1 = nI w := by rw [q1 1 (by decide)]; exact q10
  have h60 := h.a.2
  have hm : g 18 = nI (T 3).length := by rw [h.a.1.1, List.length_map]
  rw [a1, a2, bd_some, bd_some, if_neg one_ne, if_neg one_ne, n_value 1 1 rfl (by decide), bd_some, q10, gl 18 18 rfl (by decide), hm, lt_b]
  obtain ⟨a', c1, c2⟩ := s_lateL (N := N) h.a (fun asked => bd (F_X12_goes N g asked (nI (T 3).length) there counts lasts cames (nI rule) (nI n)) (fun o_7 =>
    some (o_7.1, asked, nI (T 3).length, o_7.2.1, o_7.2.2.1, o_7.2.2.2.1, o_7.2.2.2.2))) (nI rule) (nI n) there counts lasts cames (T 3).length 0 N asked (by omega) (by omega) (fun j hj => by omega)
  obtain ⟨r, pl', A', d1, d2⟩ := s_hits hN hn1 hn hr hw hw5 hg1 (KS := T 3) h60 hI.i0.2.2.2.2 (asked := a') c2 60 1 places there counts lasts cames
  rw [nI_0] at c1
  exact ⟨r, pl', a', nI (T 3).length, A', by rw [d1, bd_some], by rw [c1, d2, bd_some]⟩
