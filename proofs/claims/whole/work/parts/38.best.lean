-- Orders: the best order
def TW (w : Nat) (t : List Nat) : Prop := TB t ∧ ∀ i, i < w → t.getD i 0 < w
theorem swp_tw {w : Nat} {t : List Nat} {i j : Nat} (h : TW w t) (hi : i < w) (hj : j < w) : TW w (swp t i j) := by
  refine ⟨swp_tb h.1, fun k hk => ?_⟩
  unfold swp
  simp only [List.getD_eq_getElem?_getD]
  have h1 := h.2
  simp only [List.getD_eq_getElem?_getD] at h1
  rw [List.getElem?_set]
  split
  · split
    · exact h1 i hi
    · simp; omega
  · rw [List.getElem?_set]
    split
    · split
      · exact h1 j hj
      · simp; omega
    · exact h1 k hk
theorem rvs_tw {w : Nat} : ∀ (f : Nat) (t : List Nat) (lo hi : Nat), hi < w → TW w t → TW w (rvs f t lo hi) := by
  intro f
  induction f with
  | zero => intro t lo hi _ h; exact h
  | succ f ih =>
    intro t lo hi hh h
    unfold rvs
    split
    · exact ih _ _ _ (by omega) (swp_tw h (by omega) hh)
    · exact h
theorem adv_tw {w : Nat} {t t' : List Nat} (hw : 1 ≤ w) (h : TW w t) (e : adv w t = some t') : TW w t' := by
  unfold adv at e
  split at e
  · cases e
  · rename_i p hp
    cases e
    have h1 := pvt_lt _ _ hp
    have h2 := nxt_le (t := t) (p := p) (w - 1)
    exact rvs_tw _ _ _ _ (by omega) (swp_tw h (by omega) (by omega))
def perA (A : AS) (t : List Nat) : AS := fun c => if c = 3 then fun k => A 3 (t.getD k 0) else A c
def perTo (A : AS) (t : List Nat) (i : Nat) : AS := fun c => if c = 3 then fun k => if k < i then A 3 (t.getD k 0) else A 3 k else A c
theorem perA_ag {A : AS} {t : List Nat} (h : AG A) (ht : TW (A 7 1) t) : AG (perA A t) := by
  obtain ⟨h1, h2, h3, h4, h5⟩ := h
  exact ⟨h1, h2, h3, fun k hk => h4 _ (ht.2 k hk), h5⟩
def muc (A : AS) (n : Nat) (t : List Nat) : Nat := mnW (lpA (perA A t) n) (A 7 0 - 1)
def btr (m : Option Nat) (u : Nat) : Bool := match m with
  | none => true
  | some v => decide (v < u)
def obL (A : AS) (n : Nat) : Nat → List Nat → Option Nat → List Nat → Option Nat × List Nat
  | 0, t, m, b => if btr m (muc A n t) then (some (muc A n t), t) else (m, b)
  | k + 1, t, m, b => match adv (A 7 1) t with
    | none => if btr m (muc A n t) then (some (muc A n t), t) else (m, b)
    | some t' => obL A n k t' (if btr m (muc A n t) then some (muc A n t) else m) (if btr m (muc A n t) then t else b)
section BEST
variable {sc : List Int32} {h : List ms_C} {Q : Option Value → List ms_C → Prop} {a b c : Nat} {t : List Nat} {be : List Int32} {A B : AS}
theorem putOtherwise_wp (hp : OA h a t be) (hT : TA h b A) (hU : TA h c B) (hG : AG A) (ht : TW (A 7 1) t) (hd : b + 7 ≤ c ∨ c + 7 ≤ b) (hd2 : a + 3 ≤ c ∨ c + 7 ≤ a) {l3 : Option Value} (k : ∀ h1, TA h1 c (perA A t) → Off h h1 c 7 → Q none h1) : WP sc 2 0 [some (.ref a), some (.ref b), some (.ref c), l3] [] h Q := by
  obtain ⟨⟨G1, G2⟩, ⟨G3, G4⟩, G5, G6, G7⟩ := hG
  have hIc : (ms_is h c 4).isSome = true := by
    obtain ⟨kd, we, us, di, st, wo, z0, -⟩ := hU
    rw [i_obj z0]; rfl
  simp (disch := first | assumption | exact wn2_i | exact wn2_r | exact wn2_n | exact Nat.le_of_ble_eq_true rfl | omega | (refine nI_z ?_ ?_ <;> omega)) only [s2_0, s2_1, s2_2, wX_some, Option.toList_some, Option.toList_none, List.cons_append, List.nil_append, List.map_cons, List.map_nil, List.sum_cons, List.sum_nil, Value.category, wn2_i, wn2_r, wn2_n, Option.isSome_some, List.getElem?_cons_zero, List.getElem?_cons_succ, nI_add, nI_rem2]
  refine become_wp hU hT (by omega) G2 G4 (fun h1 hT1 ho1 => ?_)
  have key : ∀ i, i ≤ A 7 1 → ∀ h1, TA h1 c (perTo A t i) → Off h h1 c 7 → WP sc 2 7 [some (.ref a), some (.ref b), some (.ref c), some (.int (nI i))] [] h1 Q := by
    refine loop_up ?_ ?_
    · intro h1 hT1 ho
      have hb1 := hT.off ho (by omega)
      obtain ⟨kd, we, us, di, st, wo, hg, hi, hI, -⟩ := hb1.facts
      rw [s2_7]
      simp (disch := first | assumption | exact wn2_i | exact wn2_r | exact wn2_n | exact Nat.le_of_ble_eq_true rfl | omega | (refine nI_z ?_ ?_ <;> omega)) only [s2_8, s2_9, s2_12, s2_15, s2_16, s2_19, s2_20, s2_21, s2_24, s2_25, s2_28, s2_29, s2_30, s2_31, s2_32, s2_35, s2_38, wX_some, Option.toList_some, Option.toList_none, List.cons_append, List.nil_append, List.map_cons, List.map_nil, List.sum_cons, List.sum_nil, Value.category, wn2_i, wn2_r, wn2_n, Option.isSome_some, List.getElem?_cons_zero, List.getElem?_cons_succ, nI_add, nI_rem2, hg, nI_leI, Nat.le_refl, if_true]
      refine k _ ?_ ho
      obtain ⟨kd, we, us, di, st, wo, z0, z1, j1, j2, j3, j4, j5, j6⟩ := hT1
      exact ⟨kd, we, us, di, st, wo, z0, z1, j1, j2, j3, j4, j5, j6.to (Nat.le_refl _) (fun i hi => by
        have hi : i < A 7 1 := hi
        show (if i < A 7 1 then A 3 (t.getD i 0) else A 3 i) = A 3 (t.getD i 0)
        rw [if_pos hi])⟩
    · intro i hlt ih h1 hT1 ho
      have hb1 := hT.off ho (by omega)
      have ho1 : OA h1 a t be := hp.offX (ho.x (P := fun i => c ≤ i ∧ i < c + 7) (fun i x1 x2 => ⟨x1, x2⟩)) (fun i x1 x2 => by omega)
      obtain ⟨z0, z1, z2, zg⟩ := ho1
      have hgo := g_obj z0
      have ao := a_arr z1
      have e1 : (t.map nI).length = 6 := by rw [List.length_map]; exact ht.1.1
      obtain ⟨kd, we, us, di, st, wo, hg, hi, hI, a1, a2, a3, a4, a5, a6, g1, g2, g3, g4, g5, g6, k1, k2, k3, k4, k5, k6, hlen⟩ := hb1.facts
      obtain ⟨kd', we', us', di', st', wo', hg', hi', hI', a1', a2', a3', a4', a5', a6', g1', g2', g3', g4', g5', g6', k1', k2', k3', k4', k5', k6', hlen'⟩ := hT1.facts
      have hti := ht.2 i hlt
      have v := k6.2 _ hti
      have hge : ¬ nI (A 7 1) ≤ nI i := nI_ge hlt (by omega)
      have hgc : ms_get h1 c 4 5 = some (.ref (c + 6)) := hg' 5
      rw [s2_7]
      simp (disch := first | assumption | exact wn2_i | exact wn2_r | exact wn2_n | exact Nat.le_of_ble_eq_true rfl | omega | (refine nI_z ?_ ?_ <;> omega)) only [s2_8, s2_9, s2_12, s2_15, s2_16, s2_19, s2_20, s2_21, s2_24, s2_25, s2_28, s2_29, s2_30, s2_31, s2_32, s2_35, wX_some, Option.toList_some, Option.toList_none, List.cons_append, List.nil_append, List.map_cons, List.map_nil, List.sum_cons, List.sum_nil, Value.category, wn2_i, wn2_r, wn2_n, Option.isSome_some, List.getElem?_cons_zero, List.getElem?_cons_succ, nI_add, nI_rem2, hg, hge, if_false, hgc, hgo, ao, e1, iat_n, mp_get, a6, g6, v, a6', g6']
      refine ih _ ?_ (ho.st (by omega) (by omega))
      have := TA.arr (d := 5) hT1 (by omega) (l := wo'.set i (nI (A 3 (t.getD i 0)))) (f := up1 (perTo A t i 3) i (A 3 (t.getD i 0))) (k6'.put (by omega))
      have e9 : perTo A t (i + 1) = fun d => if d = 3 then up1 (perTo A t i 3) i (A 3 (t.getD i 0)) else perTo A t i d := by
        funext d
        by_cases hc : d = 3
        · subst hc
          funext j
          show (if j < i + 1 then _ else _) = (if j = i then _ else if j < i then _ else _)
          by_cases hj : j = i
          · subst hj; simp
          · by_cases hj2 : j < i
            · rw [if_pos (by omega), if_neg hj, if_pos hj2]
            · rw [if_neg (by omega), if_neg hj, if_neg hj2]
        · simp [perTo, hc]
      rw [e9]
      exact this
  simp (disch := first | assumption | exact wn2_i | exact wn2_r | exact wn2_n | exact Nat.le_of_ble_eq_true rfl | omega | (refine nI_z ?_ ?_ <;> omega)) only [s2_5, s2_6, wX_some, Option.toList_some, Option.toList_none, List.cons_append, List.nil_append, List.map_cons, List.map_nil, List.sum_cons, List.sum_nil, Value.category, wn2_i, wn2_r, wn2_n, Option.isSome_some, List.getElem?_cons_zero, List.getElem?_cons_succ, nI_add, nI_rem2]
  refine key 0 (by omega) h1 ?_ ho1
  have : perTo A t 0 = A := by
    funext d
    by_cases hc : d = 3
    · subst hc; funext j; simp [perTo]
    · simp [perTo, hc]
  rw [this]
  exact hT1
end BEST
theorem set_tb {t : List Nat} {i v : Nat} (h : TB t) (hv : v < 100) : TB (t.set i v) := by
  refine ⟨by simpa using h.1, fun k => ?_⟩
  have h1 := h.2 k
  simp only [List.getD_eq_getElem?_getD] at h1 ⊢
  rw [List.getElem?_set]
  split
  · split
    · exact hv
    · simp
  · exact h1
theorem id_tw {w : Nat} (hw : w ≤ 6) : TW w [0, 1, 2, 3, 4, 5] := by
  refine ⟨⟨rfl, fun i => ?_⟩, fun i hi => ?_⟩
  · match i with
    | 0 | 1 | 2 | 3 | 4 | 5 => decide
    | k + 6 => simp
  · match i, hi with
    | 0, hi | 1, hi | 2, hi | 3, hi | 4, hi | 5, hi => exact hi
    | k + 6, hi => omega
section BEST2
variable {sc : List Int32} {h : List ms_C} {Q : Option Value → List ms_C → Prop} {a b c : Nat} {t : List Nat} {be : List Int32} {A B : AS}
theorem findBest_wp (hp : OA h a t be) (htb : TB t) (hT : TA h b A) (hU : ∃ B, TA h c B) (hG : AG A) {n : Nat} (hn : n ≤ 40) (hq : A 4 0 ≤ 100000) (hd : b + 7 ≤ c ∨ c + 7 ≤ b) (hd2 : a + 3 ≤ c ∨ c + 7 ≤ a) (hd3 : a + 3 ≤ b ∨ b + 7 ≤ a) {l4 l5 l6 l7 : Option Value}
    (k : ∀ h1 t', TB t' → OA h1 a t' ((obL A n 719 [0, 1, 2, 3, 4, 5] none []).2.map nI) → (∃ B, TA h1 c B) → OffX h h1 (fun i => (a ≤ i ∧ i < a + 3) ∨ (c ≤ i ∧ i < c + 7)) → Q (some (.int (pI (obL A n 719 [0, 1, 2, 3, 4, 5] none []).1))) h1) : WP sc 1 0 [some (.ref a), some (.ref b), some (.ref c), some (.int (nI n)), l4, l5, l6, l7] [] h Q := by
  have hG0 := hG
  obtain ⟨⟨G1, G2⟩, ⟨G3, G4⟩, G5, G6, G7⟩ := hG
  have step : ∀ i t m bl l7 h1 be, i ≤ 719 → TW (A 7 1) t → OA h1 a t be → (∀ v, m = some v → be = bl.map nI ∧ v ≤ 999) → (∃ B, TA h1 c B) → OffX h h1 (fun i => (a ≤ i ∧ i < a + 3) ∨ (c ≤ i ∧ i < c + 7)) →
      (adv (A 7 1) t = none → ∀ h2 be2 l7', OA h2 a t be2 → (∀ v, (if btr m (muc A n t) then some (muc A n t) else m) = some v → be2 = (if btr m (muc A n t) then t else bl).map nI ∧ v ≤ 999) → (∃ B, TA h2 c B) → OffX h h2 (fun i => (a ≤ i ∧ i < a + 3) ∨ (c ≤ i ∧ i < c + 7)) → WP sc 1 95 [some (.ref a), some (.ref b), some (.ref c), some (.int (nI n)), some (.int (nI (A 7 1))), some (.int (pI (if btr m (muc A n t) then some (muc A n t) else m))), some (.int (nI i)), l7'] [] h2 Q) →
      (∀ t', adv (A 7 1) t = some t' → ∀ h2 be2 l7', OA h2 a t' be2 → (∀ v, (if btr m (muc A n t) then some (muc A n t) else m) = some v → be2 = (if btr m (muc A n t) then t else bl).map nI ∧ v ≤ 999) → (∃ B, TA h2 c B) → OffX h h2 (fun i => (a ≤ i ∧ i < a + 3) ∨ (c ≤ i ∧ i < c + 7)) → WP sc 1 37 [some (.ref a), some (.ref b), some (.ref c), some (.int (nI n)), some (.int (nI (A 7 1))), some (.int (pI (if btr m (muc A n t) then some (muc A n t) else m))), some (.int (nI (i + 1))), l7'] [] h2 Q) →
      WP sc 1 37 [some (.ref a), some (.ref b), some (.ref c), some (.int (nI n)), some (.int (nI (A 7 1))), some (.int (pI m)), some (.int (nI i)), l7] [] h1 Q := by
    intro i t m bl l7 h1 be hi ht hp hm hU ho kn ks
    obtain ⟨B, hU⟩ := hU
    have hb1 := hT.offX ho (fun i x1 x2 => by omega)
    have hGp := perA_ag hG0 ht
    have hge : ¬ nI 720 ≤ nI i := nI_ge (by omega) (by omega)
    have hI1 : (ms_is h1 a 0).isSome = true := by rw [i_obj hp.1]; rfl
    rw [s1_37]
    simp (disch := first | assumption | exact wn2_i | exact wn2_r | exact wn2_n | exact Nat.le_of_ble_eq_true rfl | omega | (refine nI_z ?_ ?_ <;> omega)) only [s1_39, s1_42, s1_45, s1_46, s1_47, s1_48, wX_some, Option.toList_some, Option.toList_none, List.cons_append, List.nil_append, List.map_cons, List.map_nil, List.sum_cons, List.sum_nil, Value.category, wn2_i, wn2_r, wn2_n, Option.isSome_some, List.getElem?_cons_zero, List.getElem?_cons_succ, nI_add, nI_rem2, hge, if_false, hI1]
    refine putOtherwise_wp hp hb1 hU hG0 ht hd hd2 (fun h2 hT2 ho2 => ?_)
    have hp2 : OA h2 a t be := hp.offX (ho2.x (P := fun i => c ≤ i ∧ i < c + 7) (fun i x1 x2 => ⟨x1, x2⟩)) (fun i x1 x2 => by omega)
    have hx2 : OffX h h2 (fun i => (a ≤ i ∧ i < a + 3) ∨ (c ≤ i ∧ i < c + 7)) := ho.tr (ho2.x (fun i x1 x2 => Or.inr ⟨x1, x2⟩))
    obtain ⟨_, _, _, _, _, _, _, _, hI2, -⟩ := hT2.facts
    simp (disch := first | assumption | exact wn2_i | exact wn2_r | exact wn2_n | exact Nat.le_of_ble_eq_true rfl | omega | (refine nI_z ?_ ?_ <;> omega)) only [s1_51, s1_52, s1_53, wX_some, Option.toList_some, Option.toList_none, List.cons_append, List.nil_append, List.map_cons, List.map_nil, List.sum_cons, List.sum_nil, Value.category, wn2_i, wn2_r, wn2_n, Option.isSome_some, List.getElem?_cons_zero, List.getElem?_cons_succ, nI_add, nI_rem2]
    refine letPass_wp hT2 hGp (by omega) (by show A 4 0 + n ≤ _; omega) (fun h3 hT3 ho3 => ?_)
    have hp3 : OA h3 a t be := hp2.offX (ho3.x (P := fun i => c ≤ i ∧ i < c + 7) (fun i x1 x2 => ⟨x1, x2⟩)) (fun i x1 x2 => by omega)
    have hx3 : OffX h h3 (fun i => (a ≤ i ∧ i < a + 3) ∨ (c ≤ i ∧ i < c + 7)) := hx2.tr (ho3.x (fun i x1 x2 => Or.inr ⟨x1, x2⟩))
    obtain ⟨_, _, _, _, _, _, _, _, hI3, -⟩ := hT3.facts
    have hGl := lpA_ag hGp n
    have hs7 : lpA (perA A t) n 7 = A 7 := (lpA_s n).1
    have hpw := fun Q => poorestWealth_wp (sc := sc) (Q := Q) (l1 := none) (l2 := none) hT3 (by rw [hs7]; omega) (by rw [hs7]; omega) (fun s hs => by have := (hGl.2.2.1 s hs).1; omega)
    rw [hs7] at hpw
    have hmu : muc A n t ≤ 999 := mnW_le (A := lpA (perA A t) n) (n := A 7 0) (fun i hi => by have := (hGl.2.2.1 i (by rw [hs7]; exact hi)).1; omega) _ (by omega)
    have hmd : mnW (lpA (perA A t) n) (A 7 0 - 1) = muc A n t := rfl
    rw [hmd] at hpw
    simp (disch := first | assumption | exact wn2_i | exact wn2_r | exact wn2_n | exact Nat.le_of_ble_eq_true rfl | omega | (refine nI_z ?_ ?_ <;> omega)) only [s1_56, s1_57, s1_60, wX_some, Option.toList_some, Option.toList_none, List.cons_append, List.nil_append, List.map_cons, List.map_nil, List.sum_cons, List.sum_nil, Value.category, wn2_i, wn2_r, wn2_n, Option.isSome_some, List.getElem?_cons_zero, List.getElem?_cons_succ, nI_add, nI_rem2, hpw]
    -- behind the comparison
    have tail : ∀ h4 be4 mm bb, OA h4 a t be4 → mm = (if btr m (muc A n t) then some (muc A n t) else m) → bb = (if btr m (muc A n t) then t else bl) → (∀ v, mm = some v → be4 = bb.map nI ∧ v ≤ 999) → (∃ B, TA h4 c B) → OffX h h4 (fun i => (a ≤ i ∧ i < a + 3) ∨ (c ≤ i ∧ i < c + 7)) → WP sc 1 77 [some (.ref a), some (.ref b), some (.ref c), some (.int (nI n)), some (.int (nI (A 7 1))), some (.int (pI mm)), some (.int (nI i)), some (.int (nI (muc A n t)))] [] h4 Q := by
      intro h4 be4 mm bb hp4 hmm hbb hm4 hU4 hx4
      have hI4 : (ms_is h4 a 0).isSome = true := by rw [i_obj hp4.1]; rfl
      simp (disch := first | assumption | exact wn2_i | exact wn2_r | exact wn2_n | exact Nat.le_of_ble_eq_true rfl | omega | (refine nI_z ?_ ?_ <;> omega)) only [s1_77, s1_78, s1_80, wX_some, Option.toList_some, Option.toList_none, List.cons_append, List.nil_append, List.map_cons, List.map_nil, List.sum_cons, List.sum_nil, Value.category, wn2_i, wn2_r, wn2_n, Option.isSome_some, List.getElem?_cons_zero, List.getElem?_cons_succ, nI_add, nI_rem2, hI4]
      refine advance_wp hp4 ht.1 ⟨G3, G4⟩ (fun hn0 => ?_) (fun h5 t' hs hp5 ho5 => ?_)
      · simp (disch := first | assumption | exact wn2_i | exact wn2_r | exact wn2_n | exact Nat.le_of_ble_eq_true rfl | omega | (refine nI_z ?_ ?_ <;> omega)) only [s1_83, s1_86, wX_some, Option.toList_some, Option.toList_none, List.cons_append, List.nil_append, List.map_cons, List.map_nil, List.sum_cons, List.sum_nil, Value.category, wn2_i, wn2_r, wn2_n, Option.isSome_some, List.getElem?_cons_zero, List.getElem?_cons_succ, nI_add, nI_rem2, nI_eq0, if_true]
        subst hmm; subst hbb
        exact kn hn0 _ _ _ hp4 hm4 hU4 hx4
      · simp (disch := first | assumption | exact wn2_i | exact wn2_r | exact wn2_n | exact Nat.le_of_ble_eq_true rfl | omega | (refine nI_z ?_ ?_ <;> omega)) only [s1_83, s1_86, s1_89, s1_92, wX_some, Option.toList_some, Option.toList_none, List.cons_append, List.nil_append, List.map_cons, List.map_nil, List.sum_cons, List.sum_nil, Value.category, wn2_i, wn2_r, wn2_n, Option.isSome_some, List.getElem?_cons_zero, List.getElem?_cons_succ, nI_add, nI_rem2, nI_eq0, if_false, Nat.reduceEqDiff]
        subst hmm; subst hbb
        obtain ⟨B4, hB4⟩ := hU4
        exact ks t' hs _ _ _ hp5 hm4 ⟨B4, hB4.off ho5 (by omega)⟩ (hx4.tr (ho5.x (fun i x1 x2 => Or.inl ⟨x1, x2⟩)))
    have take : btr m (muc A n t) = true → WP sc 1 69 [some (.ref a), some (.ref b), some (.ref c), some (.int (nI n)), some (.int (nI (A 7 1))), some (.int (pI m)), some (.int (nI i)), some (.int (nI (muc A n t)))] [] h3 Q := by
      intro hbt
      have hI3' : (ms_is h3 a 0).isSome = true := by rw [i_obj hp3.1]; rfl
      simp (disch := first | assumption | exact wn2_i | exact wn2_r | exact wn2_n | exact Nat.le_of_ble_eq_true rfl | omega | (refine nI_z ?_ ?_ <;> omega)) only [s1_69, s1_71, s1_73, s1_74, wX_some, Option.toList_some, Option.toList_none, List.cons_append, List.nil_append, List.map_cons, List.map_nil, List.sum_cons, List.sum_nil, Value.category, wn2_i, wn2_r, wn2_n, Option.isSome_some, List.getElem?_cons_zero, List.getElem?_cons_succ, nI_add, nI_rem2, hI3']
      refine noteBest_wp hp3 ht.1 (fun h4 hp4 ho4 => ?_)
      simp only [wX_some, Option.toList_some, Option.toList_none, List.cons_append, List.nil_append, List.map_cons, List.map_nil, List.sum_cons, List.sum_nil, Value.category, wn2_i, wn2_r, wn2_n, Option.isSome_some, List.getElem?_cons_zero, List.getElem?_cons_succ, nI_add, nI_rem2]
      refine tail h4 _ (some (muc A n t)) t hp4 (by rw [hbt]; rfl) (by rw [hbt]; rfl) (fun v hv => by cases hv; exact ⟨rfl, hmu⟩) ⟨_, hT3.off ho4 (by omega)⟩ (hx3.tr (ho4.x (fun i x1 x2 => Or.inl ⟨x1, x2⟩)))
    cases hmc : m with
    | none =>
      have n1 : ¬ nI (muc A n t) ≤ -1 := by
        rw [Int32.le_iff_toInt_le, nI_toInt (by omega)]
        have : (-1 : Int32).toInt = -1 := rfl
        omega
      subst hmc
      have := take rfl
      simp (disch := first | assumption | exact wn2_i | exact wn2_r | exact wn2_n | exact Nat.le_of_ble_eq_true rfl | omega | (refine nI_z ?_ ?_ <;> omega)) only [s1_62, s1_64, s1_66, wX_some, Option.toList_some, Option.toList_none, List.cons_append, List.nil_append, List.map_cons, List.map_nil, List.sum_cons, List.sum_nil, Value.category, wn2_i, wn2_r, wn2_n, Option.isSome_some, List.getElem?_cons_zero, List.getElem?_cons_succ, nI_add, nI_rem2, pI, n1, if_false]
      exact this
    | some v =>
      subst hmc
      have hv := (hm v rfl).2
      by_cases hlt : v < muc A n t
      · have n1 : ¬ nI (muc A n t) ≤ nI v := nI_ge hlt (by omega)
        have := take (by simp [btr, hlt])
        simp (disch := first | assumption | exact wn2_i | exact wn2_r | exact wn2_n | exact Nat.le_of_ble_eq_true rfl | omega | (refine nI_z ?_ ?_ <;> omega)) only [s1_62, s1_64, s1_66, wX_some, Option.toList_some, Option.toList_none, List.cons_append, List.nil_append, List.map_cons, List.map_nil, List.sum_cons, List.sum_nil, Value.category, wn2_i, wn2_r, wn2_n, Option.isSome_some, List.getElem?_cons_zero, List.getElem?_cons_succ, nI_add, nI_rem2, pI, n1, if_false]
        exact this
      · have n1 : nI (muc A n t) ≤ nI v := nI_le (by omega) (by omega)
        have hbt : btr (some v) (muc A n t) = false := by simp [btr]; omega
        have := tail h3 be (some v) bl hp3 (by rw [hbt]; rfl) (by rw [hbt]; rfl) hm ⟨_, hT3⟩ hx3
        simp (disch := first | assumption | exact wn2_i | exact wn2_r | exact wn2_n | exact Nat.le_of_ble_eq_true rfl | omega | (refine nI_z ?_ ?_ <;> omega)) only [s1_62, s1_64, s1_66, wX_some, Option.toList_some, Option.toList_none, List.cons_append, List.nil_append, List.map_cons, List.map_nil, List.sum_cons, List.sum_nil, Value.category, wn2_i, wn2_r, wn2_n, Option.isSome_some, List.getElem?_cons_zero, List.getElem?_cons_succ, nI_add, nI_rem2, pI, n1, if_true]
        exact this
  have out : ∀ i t bl m l7 h1 be, TB t → OA h1 a t be → (∀ v, m = some v → be = bl.map nI ∧ v ≤ 999) → (∃ v, m = some v) → (∃ B, TA h1 c B) → OffX h h1 (fun i => (a ≤ i ∧ i < a + 3) ∨ (c ≤ i ∧ i < c + 7)) → (m, bl) = obL A n 719 [0, 1, 2, 3, 4, 5] none [] → WP sc 1 95 [some (.ref a), some (.ref b), some (.ref c), some (.int (nI n)), some (.int (nI (A 7 1))), some (.int (pI m)), some (.int (nI i)), l7] [] h1 Q := by
    intro i t bl m l7 h1 be ht hp hm hs hU ho hob
    obtain ⟨v, hv⟩ := hs
    simp (disch := first | assumption | exact wn2_i | exact wn2_r | exact wn2_n | exact Nat.le_of_ble_eq_true rfl | omega | (refine nI_z ?_ ?_ <;> omega)) only [s1_95, s1_97, wX_some, Option.toList_some, Option.toList_none, List.cons_append, List.nil_append, List.map_cons, List.map_nil, List.sum_cons, List.sum_nil, Value.category, wn2_i, wn2_r, wn2_n, Option.isSome_some, List.getElem?_cons_zero, List.getElem?_cons_succ, nI_add, nI_rem2]
    have e1 := congrArg Prod.fst hob
    have e2 := congrArg Prod.snd hob
    dsimp only at e1 e2
    rw [e1]
    refine k h1 t ht ?_ hU ho
    rw [← e2, ← (hm v hv).1]
    exact hp
  have isS : ∀ (m : Option Nat) u, ∃ v, (if btr m u then some u else m) = some v := by
    intro m u
    cases m with
    | none => exact ⟨u, rfl⟩
    | some v =>
      by_cases hb : btr (some v) u = true
      · exact ⟨u, by rw [if_pos hb]⟩
      · exact ⟨v, by rw [if_neg hb]⟩
  have main : ∀ fu, ∀ i, i + fu = 719 → ∀ t m bl l7 h1 be, TW (A 7 1) t → OA h1 a t be → (∀ v, m = some v → be = bl.map nI ∧ v ≤ 999) → (∃ B, TA h1 c B) → OffX h h1 (fun i => (a ≤ i ∧ i < a + 3) ∨ (c ≤ i ∧ i < c + 7)) → obL A n fu t m bl = obL A n 719 [0, 1, 2, 3, 4, 5] none [] → WP sc 1 37 [some (.ref a), some (.ref b), some (.ref c), some (.int (nI n)), some (.int (nI (A 7 1))), some (.int (pI m)), some (.int (nI i)), l7] [] h1 Q := by
    intro fu
    induction fu with
    | zero =>
      intro i hi t m bl l7 h1 be ht hp hm hU ho hob
      have e : obL A n 0 t m bl = ((if btr m (muc A n t) then some (muc A n t) else m), (if btr m (muc A n t) then t else bl)) := by
        unfold obL; split <;> rfl
      refine step i t m bl l7 h1 be (by omega) ht hp hm hU ho (fun _ h2 be2 l7' x1 x2 x3 x4 => out _ t _ _ _ _ _ ht.1 x1 x2 (isS _ _) x3 x4 (by rw [← hob, e])) (fun t' hs h2 be2 l7' x1 x2 x3 x4 => ?_)
      have hge : nI 720 ≤ nI (i + 1) := nI_le (by omega) (by omega)
      rw [s1_37]
      simp (disch := first | assumption | exact wn2_i | exact wn2_r | exact wn2_n | exact Nat.le_of_ble_eq_true rfl | omega | (refine nI_z ?_ ?_ <;> omega)) only [s1_39, s1_42, wX_some, Option.toList_some, Option.toList_none, List.cons_append, List.nil_append, List.map_cons, List.map_nil, List.sum_cons, List.sum_nil, Value.category, wn2_i, wn2_r, wn2_n, Option.isSome_some, List.getElem?_cons_zero, List.getElem?_cons_succ, nI_add, nI_rem2, hge, if_true]
      exact out _ t' _ _ _ _ _ (adv_tb ht.1 hs) x1 x2 (isS _ _) x3 x4 (by rw [← hob, e])
    | succ fu ih =>
      intro i hi t m bl l7 h1 be ht hp hm hU ho hob
      refine step i t m bl l7 h1 be (by omega) ht hp hm hU ho (fun hn0 h2 be2 l7' x1 x2 x3 x4 => out _ t _ _ _ _ _ ht.1 x1 x2 (isS _ _) x3 x4 ?_) (fun t' hs h2 be2 l7' x1 x2 x3 x4 => ?_)
      · rw [← hob, obL, hn0]
        dsimp only
        split <;> rfl
      · refine ih (i + 1) (by omega) t' _ _ _ _ _ (adv_tw G3 ht hs) x1 x2 x3 x4 ?_
        rw [← hob]
        conv => rhs; rw [obL, hs]
  have start : ∀ i, i ≤ 6 → ∀ h1 t1, TB t1 → OA h1 a t1 be → (∀ j, j < i → t1.getD j 0 = j) → Off h h1 a 3 → WP sc 1 9 [some (.ref a), some (.ref b), some (.ref c), some (.int (nI n)), some (.int (nI (A 7 1))), some (.int (nI i)), l6, l7] [] h1 Q := by
    refine loop_up ?_ ?_
    · intro h1 t1 ht1 hp1 hj ho
      have he : t1 = [0, 1, 2, 3, 4, 5] := by
        apply List.ext_getElem
        · exact ht1.1
        · intro j x1 x2
          have h6 : j < 6 := by rw [ht1.1] at x1; exact x1
          have := hj j h6
          rw [List.getD_eq_getElem?_getD, List.getElem?_eq_getElem x1] at this
          have e9 : [0, 1, 2, 3, 4, 5][j] = j := by
            match j, h6 with
            | 0, _ | 1, _ | 2, _ | 3, _ | 4, _ | 5, _ => rfl
          rw [e9]
          exact this
      subst he
      rw [s1_9]
      simp (disch := first | assumption | exact wn2_i | exact wn2_r | exact wn2_n | exact Nat.le_of_ble_eq_true rfl | omega | (refine nI_z ?_ ?_ <;> omega)) only [s1_11, s1_13, s1_16, s1_17, s1_20, s1_22, s1_24, s1_25, s1_28, s1_31, s1_32, s1_34, s1_35, wX_some, Option.toList_some, Option.toList_none, List.cons_append, List.nil_append, List.map_cons, List.map_nil, List.sum_cons, List.sum_nil, Value.category, wn2_i, wn2_r, wn2_n, Option.isSome_some, List.getElem?_cons_zero, List.getElem?_cons_succ, nI_add, nI_rem2, nI_leI, Nat.le_refl, if_true]
      refine main 719 0 (by omega) _ none [] _ h1 be (id_tw G4) hp1 (fun v hv => by cases hv) ?_ (ho.x (fun i x1 x2 => Or.inl ⟨x1, x2⟩)) rfl
      obtain ⟨B, hB⟩ := hU
      exact ⟨B, hB.off ho (by omega)⟩
    · intro i hlt ih h1 t1 ht1 hp1 hj ho
      obtain ⟨z0, z1, z2, zg⟩ := hp1
      have hg := g_obj z0
      have a1 := a_arr z1
      have l1 := lt_of_some z1
      have e1 : (t1.map nI).length = 6 := by rw [List.length_map]; exact ht1.1
      have hge : ¬ nI 6 ≤ nI i := nI_ge hlt (by omega)
      rw [s1_9]
      simp (disch := first | assumption | exact wn2_i | exact wn2_r | exact wn2_n | exact Nat.le_of_ble_eq_true rfl | omega | (refine nI_z ?_ ?_ <;> omega)) only [s1_11, s1_13, s1_16, s1_17, s1_20, s1_22, s1_24, s1_25, s1_28, wX_some, Option.toList_some, Option.toList_none, List.cons_append, List.nil_append, List.map_cons, List.map_nil, List.sum_cons, List.sum_nil, Value.category, wn2_i, wn2_r, wn2_n, Option.isSome_some, List.getElem?_cons_zero, List.getElem?_cons_succ, nI_add, nI_rem2, hge, if_false, hg, a1, e1, iat_n, mp_set]
      refine ih _ (t1.set i i) (set_tb ht1 (by omega)) ⟨s_ne (by omega) z0, s_eq l1, s_ne (by omega) z2, zg⟩ (fun j hj2 => ?_) (ho.st (by omega) (by omega))
      simp only [List.getD_eq_getElem?_getD]
      by_cases hji : j = i
      · subst hji
        rw [List.getElem?_set_self (by rw [ht1.1]; omega)]
        rfl
      · rw [List.getElem?_set_ne (fun e => hji e.symm)]
        have := hj j (by omega)
        rw [List.getD_eq_getElem?_getD] at this
        exact this
  obtain ⟨_, _, _, _, _, _, hg, hi, hI, -⟩ := hT.facts
  simp (disch := first | assumption | exact wn2_i | exact wn2_r | exact wn2_n | exact Nat.le_of_ble_eq_true rfl | omega | (refine nI_z ?_ ?_ <;> omega)) only [s1_0, s1_1, s1_4, s1_6, s1_7, wX_some, Option.toList_some, Option.toList_none, List.cons_append, List.nil_append, List.map_cons, List.map_nil, List.sum_cons, List.sum_nil, Value.category, wn2_i, wn2_r, wn2_n, Option.isSome_some, List.getElem?_cons_zero, List.getElem?_cons_succ, nI_add, nI_rem2, hg]
  exact start 0 (by omega) h t htb hp (fun j hj => by omega) Off.rf
end BEST2
