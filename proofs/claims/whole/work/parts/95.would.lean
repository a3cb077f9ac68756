/-! ===== would: both sides ===== -/
def smP (w : Nat → Nat) (p : Nat → Bool) (n : Nat) : Nat := ((List.range n).map (fun x => if p x = true then w x else 0)).sum
theorem smP_succ (w : Nat → Nat) (p : Nat → Bool) (n : Nat) : smP w p (n + 1) = smP w p n + if p n = true then w n else 0 := by
  unfold smP
  rw [List.range_succ, List.map_append, List.sum_append]
  show _ + (_ + 0) = _
  rw [Nat.add_zero]
theorem smP_congr {w : Nat → Nat} {p q : Nat → Bool} : ∀ {n : Nat}, (∀ x, x < n → p x = q x) → smP w p n = smP w q n
  | 0, _ => rfl
  | n + 1, h => by rw [smP_succ, smP_succ, smP_congr (n := n) (fun x hx => h x (by omega)), h n (by omega)]
theorem smP_split {w : Nat → Nat} {p q : Nat → Bool} {e : Nat} (hq : q e = false) : ∀ {n : Nat}, (∀ x, x < n → p x = (decide (x = e) || q x)) → smP w p n = (if e < n then w e else 0) + smP w q n
  | 0, _ => by rw [if_neg (Nat.not_lt_zero _)]; rfl
  | n + 1, h => by
    have ih := smP_split (w := w) hq (n := n) (fun x hx => h x (by omega))
    have hn := h n (by omega)
    rw [smP_succ, smP_succ, ih, hn]
    by_cases z : n = e
    · subst z
      rw [if_neg (Nat.lt_irrefl _), if_pos (Nat.lt_succ_self _), hq, decide_eq_true rfl]
      simp
      omega
    · rw [decide_eq_false z, Bool.false_or]
      by_cases y : e < n
      · rw [if_pos y, if_pos (show e < n + 1 by omega)]; omega
      · rw [if_neg y, if_neg (show ¬ e < n + 1 by omega)]; omega
theorem smP_zero {w : Nat → Nat} {p : Nat → Bool} : ∀ {n : Nat}, (∀ x, x < n → p x = false) → smP w p n = 0
  | 0, _ => rfl
  | n + 1, h => by rw [smP_succ, smP_zero (n := n) (fun x hx => h x (by omega)), h n (by omega)]; rfl
theorem smP_all (rows : Rows) : smP (fun x => wN (rw' rows x)) (fun _ => true) rows.length = wSN rows := by
  unfold smP wSN
  congr 1
  refine List.ext_getElem (by simp) (fun i h1 h2 => ?_)
  rw [List.getElem_map, List.getElem_map, List.getElem_range, if_pos rfl]
  rw [List.length_map] at h2
  show wN (rw' rows i) = _
  rw [show rw' rows i = rows[i] from q_getD_lt h2]
def ownW (rows : Rows) : Option Nat → Nat
  | none => 0
  | some e => wN (rw' rows e)
def no1 (own : Option Nat) (x : Nat) : Bool := decide (¬ own = some x)
theorem s_wouldL {N : Nat} (hN : 65536 ≤ N) {p : P} {T : Nat → Rows} {V : Nat → Nat → Int32} {g : Nat → Int32} (h : RR T V g) (hI : Iv p T V) {k : Int32} {own : Option Nat} (hown : ∀ e, own = some e → e < (T 4).length) (hkey : ∀ x, x < (T 4).length → decide (¬ cl (rw' (T 4) x) 7 = k) = no1 own x) {wt : Nat} (hwt : wt ≤ p.room) (cnt : Nat → Int32) (tape : Nat → Int32) (taped spot : Int32) : ∀ (d i l s : Nat) (b : Option Nat), i + d = (T 4).length → (T 4).length ≤ l + i → l < 65536 → (∀ x, x < (T 4).length → okB (V 0) (V 4 0) (T 4) b k x = (no1 own x && decide (i ≤ rkS (V 0) (V 4 0) (T 4) x))) → (∀ j, b = some j → j < (T 4).length) →
    ∃ s', (∀ f, d < f → L_X6_wouldGoFor_82 N (fun x6 => some x6) k (V 0) (V 4 0) (T 4) cnt f (nI (wt + smP (fun x => wN (rw' (T 4) x)) (fun x => no1 own x && decide (i ≤ rkS (V 0) (V 4 0) (T 4) x)) (T 4).length) - nI p.room) (nI s) (oI b) (nI l) = some (nI s')) ∧ (∀ f, d < f → L_X12_would_92 N (fun x5 => some (x5, taped, spot)) (oI own) g tape taped spot f (nI (wt + smP (fun x => wN (rw' (T 4) x)) (fun x => no1 own x && decide (i ≤ rkS (V 0) (V 4 0) (T 4) x)) (T 4).length)) (nI s) (nI i) = some (nI s', taped, spot)) := by
  have h200 := h.e.2
  have hO := so_ord (vals := V 0) (now := V 4 0) hI.i0.1
  have hr200 := hI.r.2.1
  have g0 : g 0 = nI p.room := by rw [h.z.1 0 (by decide)]; exact hI.r.1
  have big : ∀ (q : Nat → Bool), smP (fun x => wN (rw' (T 4) x)) q (T 4).length ≤ wSN (T 4) := by
    intro q
    rw [← smP_all]
    generalize (T 4).length = n
    induction n with
    | zero => exact Nat.le_refl _
    | succ n ih =>
      rw [smP_succ, smP_succ, if_pos rfl]
      split <;> omega
  have hsum := hI.sum
  have w20 : ∀ x, x < (T 4).length → wN (rw' (T 4) x) ≤ 20 ∧ cl (rw' (T 4) x) 1 = nI (wN (rw' (T 4) x)) := fun x hx => by
    have := wN_eq (hI.i0.1.at hx).2.1
    exact ⟨this.2.2, this.1⟩
  intro d
  induction d with
  | zero =>
    intro i l s b hi hl hl6 hok hb
    have z0 : smP (fun x => wN (rw' (T 4) x)) (fun x => no1 own x && decide (i ≤ rkS (V 0) (V 4 0) (T 4) x)) (T 4).length = 0 := smP_zero (fun x hx => by
      have := rank_bd hO hx
      have hlt : ¬ i ≤ rank (So (V 0) (V 4 0) (T 4)) (T 4).length x := by omega
      rw [show decide (i ≤ rkS (V 0) (V 4 0) (T 4) x) = false from decide_eq_false hlt, Bool.and_false])
    rw [z0, Nat.add_zero]
    refine ⟨s, fun f hf => ?_, fun f hf => ?_⟩
    · obtain ⟨f, rfl⟩ : ∃ q, f = q + 1 := ⟨f - 1, by omega⟩
      rw [e_X6_wouldGoFor_82]
      unfold K_X6_wouldGoFor_82
      by_cases z : nI l ≤ 0
      · rw [if_pos z]
      · rw [if_neg z, if_pos (show nI wt - nI p.room ≤ 0 from Int32.le_iff_toInt_le.mpr (by rw [pk_sub_toInt (by omega) (by omega)]; show _ ≤ (0 : Int); omega))]
    · obtain ⟨f, rfl⟩ : ∃ q, f = q + 1 := ⟨f - 1, by omega⟩
      rw [e_X12_would_92]
      unfold K_X12_would_92
      rw [gl 0 0 rfl (by decide), g0, if_pos (nI_le hwt (by omega))]
  | succ d ih =>
    intro i l s b hi hl hl6 hok hb
    have hin : i < (T 4).length := by omega
    have hb1 := big (fun x => no1 own x && decide (i ≤ rkS (V 0) (V 4 0) (T 4) x))
    generalize hS : smP (fun x => wN (rw' (T 4) x)) (fun x => no1 own x && decide (i ≤ rkS (V 0) (V 4 0) (T 4) x)) (T 4).length = S at hb1 ⊢
    by_cases hle : wt + S ≤ p.room
    · refine ⟨s, fun f hf => ?_, fun f hf => ?_⟩
      · obtain ⟨f, rfl⟩ : ∃ q, f = q + 1 := ⟨f - 1, by omega⟩
        rw [e_X6_wouldGoFor_82]
        unfold K_X6_wouldGoFor_82
        by_cases z : nI l ≤ 0
        · rw [if_pos z]
        · rw [if_neg z, if_pos (show nI (wt + S) - nI p.room ≤ 0 from Int32.le_iff_toInt_le.mpr (by rw [pk_sub_toInt (by omega) (by omega)]; show _ ≤ (0 : Int); omega))]
      · obtain ⟨f, rfl⟩ : ∃ q, f = q + 1 := ⟨f - 1, by omega⟩
        rw [e_X12_would_92]
        unfold K_X12_would_92
        rw [gl 0 0 rfl (by decide), g0, if_pos (nI_le hle (by omega))]
    · -- who is the i-th
      obtain ⟨e, he, hre, hgo⟩ : ∃ e, e < (T 4).length ∧ rkS (V 0) (V 4 0) (T 4) e = i ∧ F_X12_goingAt N g (nI i) = some (nI e) := by
        rcases n_nth hN (dm := 200) (vals := V 0) (now := V 4 0) hI.i0.1 (by omega) (x := nI i) (nI_pos (by omega)) with ⟨a1, -⟩ | ⟨m, e, em, hm, -, a3, a4⟩
        · have := (nI_leI (by omega) (by omega)).mp a1; omega
        · have emi : i = m := (nI_eq (by omega) (by omega)).mp em
          subst emi
          rcases s_going hN h.z h.e hO (m := i) (by omega) with ⟨e', e1, e2, e3⟩ | ⟨e1, -⟩
          · exact ⟨e', e1, e2, e3⟩
          · exact absurd a4 (e1 e a3)
      have hre' : rank (So (V 0) (V 4 0) (T 4)) (T 4).length e = i := hre
      have geti : ∀ x, x < (T 4).length → rank (So (V 0) (V 4 0) (T 4)) (T 4).length x = i → x = e := fun x hx hxi => rank_inj hO hx he (hxi.trans hre'.symm)
      by_cases ho : own = some e
      · -- the key's own: passed over
        have same : ∀ x, x < (T 4).length → (no1 own x && decide (i ≤ rkS (V 0) (V 4 0) (T 4) x)) = (no1 own x && decide (i + 1 ≤ rkS (V 0) (V 4 0) (T 4) x)) := by
          intro x hx
          by_cases z : x = e
          · have : no1 own x = false := by unfold no1; rw [z]; exact decide_eq_false (fun y => y ho)
            rw [this, Bool.false_and, Bool.false_and]
          · have hne : ¬ rank (So (V 0) (V 4 0) (T 4)) (T 4).length x = i := fun y => z (geti x hx y)
            have : (i ≤ rkS (V 0) (V 4 0) (T 4) x) ↔ (i + 1 ≤ rkS (V 0) (V 4 0) (T 4) x) := by
              show i ≤ rank _ _ _ ↔ i + 1 ≤ rank _ _ _
              omega
            rw [show decide (i ≤ rkS (V 0) (V 4 0) (T 4) x) = decide (i + 1 ≤ rkS (V 0) (V 4 0) (T 4) x) from by simp only [this]]
        have hS' : smP (fun x => wN (rw' (T 4) x)) (fun x => no1 own x && decide (i + 1 ≤ rkS (V 0) (V 4 0) (T 4) x)) (T 4).length = S := by rw [← hS]; exact (smP_congr same).symm
        obtain ⟨s', c1, c2⟩ := ih (i + 1) l s b (by omega) (by omega) hl6 (fun x hx => by rw [hok x hx, same x hx]) hb
        rw [hS'] at c1 c2
        refine ⟨s', fun f hf => c1 f (by omega), fun f hf => ?_⟩
        obtain ⟨f, rfl⟩ : ∃ q, f = q + 1 := ⟨f - 1, by omega⟩
        rw [e_X12_would_92]
        unfold K_X12_would_92 J_X12_would_132
        have hoe : oI (some e) = nI e := rfl
        rw [gl 0 0 rfl (by decide), g0, if_neg (nI_ge (by omega) (by omega)), hgo, bd_some, if_pos (by rw [ho]; rfl), lt_b, nI_1]
        exact c2 f (by omega)
      · have hnoe : no1 own e = true := decide_eq_true ho
        have hS' : S = wN (rw' (T 4) e) + smP (fun x => wN (rw' (T 4) x)) (fun x => no1 own x && decide (i + 1 ≤ rkS (V 0) (V 4 0) (T 4) x)) (T 4).length := by
          rw [← hS]
          have := smP_split (w := fun x => wN (rw' (T 4) x)) (p := fun x => no1 own x && decide (i ≤ rkS (V 0) (V 4 0) (T 4) x)) (q := fun x => no1 own x && decide (i + 1 ≤ rkS (V 0) (V 4 0) (T 4) x)) (e := e) (by
            have : ¬ i + 1 ≤ rkS (V 0) (V 4 0) (T 4) e := by show ¬ i + 1 ≤ rank _ _ _; omega
            rw [decide_eq_false this, Bool.and_false]) (n := (T 4).length) (fun x hx => by
            by_cases z : x = e
            · rw [z, hnoe, decide_eq_true (show i ≤ rkS (V 0) (V 4 0) (T 4) e by show i ≤ rank _ _ _; omega), decide_eq_true rfl]
              rfl
            · have hne : ¬ rank (So (V 0) (V 4 0) (T 4)) (T 4).length x = i := fun y => z (geti x hx y)
              have hii : (i ≤ rkS (V 0) (V 4 0) (T 4) x) ↔ (i + 1 ≤ rkS (V 0) (V 4 0) (T 4) x) := by
                show i ≤ rank _ _ _ ↔ i + 1 ≤ rank _ _ _
                omega
              rw [decide_eq_false z, Bool.false_or, show decide (i ≤ rkS (V 0) (V 4 0) (T 4) x) = decide (i + 1 ≤ rkS (V 0) (V 4 0) (T 4) x) from by simp only [hii]])
          rw [if_pos he] at this
          exact this
        generalize hS2 : smP (fun x => wN (rw' (T 4) x)) (fun x => no1 own x && decide (i + 1 ≤ rkS (V 0) (V 4 0) (T 4) x)) (T 4).length = S2 at hS'
        have hw := w20 e he
        have hwl : wN (rw' (T 4) e) ≤ 20 := hw.1
        -- the class's next one
        have hfB : fB (V 0) (V 4 0) (T 4) b k (T 4).length = some e := by
          obtain ⟨m1, m2⟩ := fB_min (b := b) (sp := k) hO (n := (T 4).length)
          have oke : okB (V 0) (V 4 0) (T 4) b k e = true := by
            rw [hok e he, hnoe, decide_eq_true (show i ≤ rkS (V 0) (V 4 0) (T 4) e by show i ≤ rank _ _ _; omega)]
            rfl
          cases hf : fB (V 0) (V 4 0) (T 4) b k (T 4).length with
          | none =>
            have := m2 hf e he
            rw [oke] at this
            cases this
          | some e2 =>
            obtain ⟨e21, e22⟩ := fB_lt hf
            have hs2 := m1 e2 hf e he oke
            rw [hok e2 e21, Bool.and_eq_true, decide_eq_true_eq] at e22
            have r2 : i ≤ rank (So (V 0) (V 4 0) (T 4)) (T 4).length e2 := e22.2
            have : ¬ rank (So (V 0) (V 4 0) (T 4)) (T 4).length e < rank (So (V 0) (V 4 0) (T 4)) (T 4).length e2 := fun y => by
              have := (rank_iff hO he e21).mpr y
              rw [hs2] at this
              cases this
            rw [geti e2 e21 (by omega)]
        obtain ⟨s', c1, c2⟩ := ih (i + 1) (l - 1) (s + 1) (some e) (by omega) (by omega) (by omega) (fun x hx => by
          unfold okB
          dsimp only
          rw [hkey x hx]
          congr 1
          by_cases z : So (V 0) (V 4 0) (T 4) e x = true
          · have := (rank_iff hO he hx).mp z
            rw [z]
            exact (decide_eq_true (show i + 1 ≤ rkS (V 0) (V 4 0) (T 4) x by show i + 1 ≤ rank _ _ _; omega)).symm
          · have hz : So (V 0) (V 4 0) (T 4) e x = false := by
              cases hh : So (V 0) (V 4 0) (T 4) e x with
              | false => rfl
              | true => exact absurd hh z
            have hnr : ¬ rank (So (V 0) (V 4 0) (T 4)) (T 4).length e < rank (So (V 0) (V 4 0) (T 4)) (T 4).length x := fun y => z ((rank_iff hO he hx).mpr y)
            rw [hz]
            exact (decide_eq_false (show ¬ i + 1 ≤ rkS (V 0) (V 4 0) (T 4) x by show ¬ i + 1 ≤ rank _ _ _; omega)).symm) (fun j hj => by cases hj; exact he)
        rw [hS2] at c1 c2
        obtain ⟨l', rfl⟩ : ∃ l', l = l' + 1 := ⟨l - 1, by omega⟩
        refine ⟨s', fun f hf => ?_, fun f hf => ?_⟩
        · obtain ⟨f, rfl⟩ : ∃ q, f = q + 1 := ⟨f - 1, by omega⟩
          rw [e_X6_wouldGoFor_82]
          unfold K_X6_wouldGoFor_82
          have hoe : oI (some e) = nI e := rfl
          have hgt : ¬ nI (wt + S) - nI p.room ≤ 0 := fun y => by
            have := Int32.le_iff_toInt_le.mp y
            rw [pk_sub_toInt (by omega) (by omega)] at this
            have this' : ((wt + S : Nat) : Int) - (p.room : Int) ≤ 0 := this
            omega
          have e5 : nI (wt + S) - nI p.room - nI (wN (rw' (T 4) e)) = nI (wt + S2) - nI p.room := by
            have a : nI (wt + S) = nI (wt + S2) + nI (wN (rw' (T 4) e)) := by rw [nI_add]; congr 1; omega
            rw [a]
            refine Int32.toBitVec_inj.mp ?_
            simp only [Int32.toBitVec_sub, Int32.toBitVec_add]
            bv_omega
          rw [if_neg (nI_nle (by omega) (by omega)), if_neg hgt, n_nextB hN (by omega) hb, bd_some, hfB, hoe, n_get0 (by omega) 1 1 rfl (by decide), bd_some, hw.2, lt_b, e5, lt_b, nI_1, lt_b, pk_m1, ← hoe]
          exact c1 f (by omega)
        · obtain ⟨f, rfl⟩ : ∃ q, f = q + 1 := ⟨f - 1, by omega⟩
          rw [e_X12_would_92]
          unfold K_X12_would_92 J_X12_would_132
          have e2 : cl (mEn (rw' (T 4) e)) 2 = cl (rw' (T 4) e) 1 := rfl
          have hne : ¬ nI e = oI own := by
            intro z
            cases hoo : own with
            | none =>
              rw [hoo] at z
              have := (oI_m1 (o := some e) (fun j hj => by cases hj; omega)).mp z
              cases this
            | some e3 =>
              rw [hoo] at z
              have h3 := hown e3 hoo
              have := (nI_eq (a := e) (b := e3) (by omega) (by omega)).mp z
              exact ho (by rw [hoo, this])
          have e4 : nI (wt + S) - nI (wN (rw' (T 4) e)) = nI (wt + S2) := by
            rw [pk_sub (by omega)]
            congr 1
            omega
          rw [gl 0 0 rfl (by decide), g0, if_neg (nI_ge (by omega) (by omega)), hgo, bd_some, if_neg hne, s_at h.e he 2 2 rfl (by decide), bd_some, e2, hw.2, lt_b, e4, lt_b, nI_1, lt_b, nI_1]
          exact c2 f (by omega)
theorem m_would {N : Nat} (hN : 65536 ≤ N) {c : Nat} {tp : List Nat} {T : Nat → Rows} {V : Nat → Nat → Int32} {g : Nat → Int32} (hs : SQ c tp T V g) {tby : Nat → Int32} {tsz : Int32} {tape : Nat → Int32} {taped : Int32} (ht : TR tp tby tsz tape taped) (spot x : Int32) :
    ∃ (r : Int32) (tp' : List Nat) (tsz' taped' spot' : Int32), F_X11_would N tby tsz (V 0) (V 4 0) (T 4) (V 3) x = some (r, tsz') ∧ F_X12_would N g tape taped spot x = some (r, taped', spot') ∧ TR tp' tby tsz' tape taped' ∧ SQ (c + 1) tp' T V g := by
  unfold F_X11_would F_X12_would
  have e1 : F_X11_isWeight x = F_X12_in x 1 20 := rfl
  rw [e1]
  rcases in01 x 1 20 with ⟨b1, b2⟩ | ⟨b1, b2, b3⟩
  · exact ⟨-1001, tp, tsz, taped, spot, by rw [b1, bd_some, if_pos rfl], by rw [b1, bd_some, if_pos rfl], ht, hs.up⟩
  obtain ⟨w, hw, ew⟩ := nI_ofx (M := 20) (n := 20) rfl (Int32.le_trans (by decide) b2) b3
  have hw1 : 1 ≤ w := by rw [ew] at b2; exact (nI_leI (a := 1) (by omega) (by omega)).mp b2
  subst ew
  obtain ⟨k, spot', k1, k2, k3⟩ := take_both hN ht spot
  rw [b1, bd_some, bd_some, if_neg one_ne, if_neg one_ne, k1, k2, bd_some, bd_some]
  rcases k3 with rfl | ⟨hk, hne⟩
  · exact ⟨-1002, [], 0, 0, spot', by rw [if_pos rfl], by rw [if_pos kc_0], ht.nil, hs.nil⟩
  have hs0 := hs.nil
  obtain ⟨p, q, h, hI, hB, hq⟩ := hs
  have h200 := h.e.2
  have hr200 := hI.r.2.1
  have g0 : g 0 = nI p.room := by rw [h.z.1 0 (by decide)]; exact hI.r.1
  have hv0 := hI.r.1
  rw [if_neg (kc_ne0 hk).1, if_neg (kc_ne0 hk).2]
  unfold F_X6_wouldGoFor
  rw [n_rowOf, bd_some, n_value 0 0 rfl (by decide), bd_some, hv0, s_entry hN h.e hI.i0.1.iE hk, bd_some, gl 0 0 rfl (by decide), g0]
  have hmn := n_may hN (vals := V 0) (now := V 4 0) (cnt := V 3) hI.i0.1 hv0 hr200 hw h200 hk
  have hms := s_may hN h hI.i0.1 hv0 hr200 hw hk
  have hsum := hI.sum
  -- the run itself
  have run : ∀ own, fk 7 (T 4) k = own → w ≤ p.room → ∃ s', J_X6_wouldGoFor_43 N k (nI w) (oI own) (nI p.room) (V 0) (V 4 0) (T 4) (V 3) = some (nI s') ∧ J_X12_would_63 N (nI w) (oI own) g tape 0 spot' = some (nI s', 0, spot') := by
    intro own hf hle
    have hown : ∀ e, own = some e → e < (T 4).length := fun e he => by rw [he] at hf; exact (fk_lt hf).1
    have hkey : ∀ x, x < (T 4).length → decide (¬ cl (rw' (T 4) x) 7 = k) = no1 own x := by
      intro x hx
      unfold no1
      have : cl (rw' (T 4) x) 7 = k ↔ own = some x := by
        constructor
        · intro z
          obtain ⟨i, hi⟩ := fk_of (mem_at hx) z
          rw [hf] at hi
          have hil := hown i hi
          rw [hi] at hf
          have hik := (fk_lt hf).2
          rw [hi]
          by_cases y : x = i
          · rw [y]
          · exfalso
            have hp := List.pairwise_iff_getElem.mp hI.i0.1.2
            have ex : rw' (T 4) x = (T 4)[x] := q_getD_lt hx
            have ei : rw' (T 4) i = (T 4)[i] := q_getD_lt hil
            rw [ex] at z
            rw [ei] at hik
            rcases Nat.lt_or_gt_of_ne y with y1 | y1
            · exact (hp x i hx hil y1).2 (z.trans hik.symm)
            · exact (hp i x hil hx y1).2 (hik.trans z.symm)
        · intro z
          rw [z] at hf
          exact (fk_lt hf).2
      simp only [this]
    obtain ⟨s', c1, c2⟩ := s_wouldL hN h hI (k := k) hown hkey hle (V 3) tape 0 spot' (T 4).length 0 (T 4).length 0 none (by omega) (by omega) (by omega) (fun x hx => by
      unfold okB
      dsimp only
      rw [hkey x hx, decide_eq_true (Nat.zero_le _)]) (fun j hj => by cases hj)
    have tot : smP (fun x => wN (rw' (T 4) x)) (fun x => no1 own x && decide (0 ≤ rkS (V 0) (V 4 0) (T 4) x)) (T 4).length + (ownW (T 4) own) = wSN (T 4) := by
      rw [← smP_all]
      have e0 : smP (fun x => wN (rw' (T 4) x)) (fun x => no1 own x && decide (0 ≤ rkS (V 0) (V 4 0) (T 4) x)) (T 4).length = smP (fun x => wN (rw' (T 4) x)) (no1 own) (T 4).length := smP_congr (fun x hx => by rw [decide_eq_true (Nat.zero_le _), Bool.and_true])
      rw [e0]
      cases own with
      | none => exact smP_congr (fun x hx => by unfold no1; exact decide_eq_true (fun z => by cases z))
      | some e =>
        have := smP_split (w := fun x => wN (rw' (T 4) x)) (p := fun _ => true) (q := no1 (some e)) (e := e) (decide_eq_false (fun z => z rfl)) (n := (T 4).length) (fun x hx => by
          by_cases z : x = e
          · rw [decide_eq_true z]; rfl
          · rw [show no1 (some e) x = true from decide_eq_true (fun y => z (Option.some.inj y).symm), Bool.or_true])
        rw [this, if_pos (hown e rfl)]
        show smP _ _ _ + wN _ = wN _ + _
        omega
    generalize hS : smP (fun x => wN (rw' (T 4) x)) (fun x => no1 own x && decide (0 ≤ rkS (V 0) (V 4 0) (T 4) x)) (T 4).length = S at c1 c2 tot
    have c1' := c1 N (by omega)
    have c2' := c2 N (by omega)
    rw [nI_0] at c1' c2'
    have hW : wS (T 4) = nI (wSN (T 4)) := wS_eq hI.i0.1.cr
    refine ⟨s', ?_, ?_⟩
    · unfold J_X6_wouldGoFor_43 F_X0_size
      rw [n_weight hN (by omega), bd_some, hW]
      have get : F_X0_get 200 (T 4) (oI own) 1 = some (nI (ownW (T 4) own)) := by
        cases own with
        | none =>
          unfold F_X0_get
          rw [lt_b]
          exact congrArg some (if_pos (show oI none < 0 by decide))
        | some e =>
          have he := hown e rfl
          have hoe : oI (some e) = nI e := rfl
          rw [hoe, n_get0 (by omega) 1 1 rfl (by decide), (wN_eq (hI.i0.1.at he).2.1).1]
          rfl
      rw [get, bd_some]
      have e5 : nI (wSN (T 4)) - nI (ownW (T 4) own) + nI w - nI p.room = nI (w + S) - nI p.room := by
        rw [pk_sub (by omega), nI_add]
        congr 2
        omega
      rw [e5, lt_b, lt_b, bd_some]
      exact c1'
    · unfold J_X12_would_63
      rw [s_weight hN h.e, bd_some, hW, nI_add]
      cases hoo : own with
      | none =>
        rw [hoo] at tot
        rw [if_neg (show ¬ (0 : Int32) ≤ oI none by decide)]
        unfold J_X12_would_83
        have e0 : nI (wSN (T 4) + w) - 0 = nI (w + S) := by
          have tot' : S + 0 = wSN (T 4) := tot
          rw [Int32.sub_zero]
          congr 1
          omega
        rw [e0, lt_b]
        rw [hoo] at c2'
        exact c2'
      | some e =>
        rw [hoo] at tot
        have tot' : S + wN (rw' (T 4) e) = wSN (T 4) := tot
        have he := hown e hoo
        have hoe : oI (some e) = nI e := rfl
        have e2 : cl (mEn (rw' (T 4) e)) 2 = nI (wN (rw' (T 4) e)) := (wN_eq (hI.i0.1.at he).2.1).1
        rw [if_pos (show (0 : Int32) ≤ oI (some e) from nI_pos' (by omega)), hoe, s_at h.e he 2 2 rfl (by decide), bd_some, e2]
        unfold J_X12_would_83
        have e0 : nI (wSN (T 4) + w) - nI (wN (rw' (T 4) e)) = nI (w + S) := by
          rw [pk_sub (by omega)]
          congr 1
          omega
        rw [e0, lt_b, ← hoe]
        rw [hoo] at c2'
        exact c2'
  by_cases hle : w ≤ p.room
  · have hnlt : ¬ nI p.room < nI w := Int32.not_lt.mpr (nI_le hle (by omega))
    obtain ⟨s', r1, r2⟩ := run _ rfl hle
    rw [if_neg hnlt]
    cases hf : fk 7 (T 4) k with
    | none =>
      rw [hf] at r1 r2
      rw [if_pos (show oI none = -1 from rfl), if_pos (show oI none < 0 by decide), hmn, hms, bd_some, bd_some]
      by_cases hm : may (V 0) (V 4 0) (T 4) (V 3) k (nI w) = 0
      · exact ⟨-1003, [], 0, 0, spot', by rw [if_pos hm, bd_some], by rw [if_pos hm], ht.nil, hs0⟩
      · exact ⟨nI s', [], 0, 0, spot', by rw [if_neg hm, r1, bd_some], by rw [if_neg hm]; exact r2, ht.nil, hs0⟩
    | some e =>
      rw [hf] at r1 r2
      have hel := (fk_lt hf).1
      have hne' : ¬ oI (some e) = -1 := fun z => by
        have := (oI_m1 (o := some e) (fun j hj => by cases hj; omega)).mp z
        cases this
      rw [if_neg hne', if_neg (show ¬ oI (some e) < 0 from nI_pos (by omega)), if_pos (nI_le hle (by omega))]
      exact ⟨nI s', [], 0, 0, spot', by rw [r1, bd_some], r2, ht.nil, hs0⟩
  · have hlt : nI p.room < nI w := nI_lt (by omega) (by omega)
    rw [if_pos hlt]
    refine ⟨-1003, [], 0, 0, spot', by rw [bd_some], ?_, ht.nil, hs0⟩
    cases hf : fk 7 (T 4) k with
    | none =>
      have hm : may (V 0) (V 4 0) (T 4) (V 3) k (nI w) = 0 := by
        by_cases z : may (V 0) (V 4 0) (T 4) (V 3) k (nI w) = 0
        · exact z
        · have := may_le z
          rw [hv0] at this
          exact absurd ((nI_leI (by omega) (by omega)).mp this) hle
      rw [if_pos (show oI none < 0 by decide), hms, bd_some, if_pos hm]
    | some e =>
      have hel := (fk_lt hf).1
      rw [if_neg (show ¬ oI (some e) < 0 from nI_pos (by omega)), if_neg (nI_ge (by omega) (by omega))]
