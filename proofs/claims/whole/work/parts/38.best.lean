-- Orders: the best order
def TW (w : Nat) (t : List Nat) : Prop := TB t ∧ ∀ i, i < w → t.getD i 0 < w
theorem swp_tw {w : Nat} {t : List Nat} {i j : Nat} (h : TW w t) (hi : i < w) (hj : j < w) : TW w (swp t i j) := by
  refine ⟨swp_tb h.1, fun k hk => ?_⟩
  unfold swp
  simp only [List.getD_eq_getElem?_getD]
  have h1 := h.2
  simp only [List.getD_eq_getElem?_getD] at h1
  rw [List.getElem?_set]
  split
  · split
    · exact h1 i hi
    · simp; omega
  · rw [List.getElem?_set]
    split
    · split
      · exact h1 j hj
      · simp; omega
    · exact h1 k hk
theorem rvs_tw {w : Nat} : ∀ (f : Nat) (t : List Nat) (lo hi : Nat), hi < w → TW w t → TW w (rvs f t lo hi) := by
  intro f
  induction f with
  | zero => intro t lo hi _ h; exact h
  | succ f ih =>
    intro t lo hi hh h
    unfold rvs
    split
    · exact ih _ _ _ (by omega) (swp_tw h (by omega) hh)
    · exact h
theorem adv_tw {w : Nat} {t t' : List Nat} (hw : 1 ≤ w) (h : TW w t) (e : adv w t = some t') : TW w t' := by
  unfold adv at e
  split at e
  · cases e
  · rename_i p hp
    cases e
    have h1 := pvt_lt _ _ hp
    have h2 := nxt_le (t := t) (p := p) (w - 1)
    exact rvs_tw _ _ _ _ (by omega) (swp_tw h (by omega) (by omega))
def perA (A : AS) (t : List Nat) : AS := fun c => if c = 3 then fun k => A 3 (t.getD k 0) else A c
def perTo (A : AS) (t : List Nat) (i : Nat) : AS := fun c => if c = 3 then fun k => if k < i then A 3 (t.getD k 0) else A 3 k else A c
theorem perA_ag {A : AS} {t : List Nat} (h : AG A) (ht : TW (A 7 1) t) : AG (perA A t) := by
  obtain ⟨h1, h2, h3, h4, h5⟩ := h
  exact ⟨h1, h2, h3, fun k hk => h4 _ (ht.2 k hk), h5⟩
def muc (A : AS) (n : Nat) (t : List Nat) : Nat := mnW (lpA (perA A t) n) (A 7 0 - 1)
def btr (m : Option Nat) (u : Nat) : Bool := match m with
  | none => true
  | some v => decide (v < u)
def obL (A : AS) (n : Nat) : Nat → List Nat → Option Nat → List Nat → Option Nat × List Nat
  | 0, t, m, b => if btr m (muc A n t) then (some (muc A n t), t) else (m, b)
  | k + 1, t, m, b => match adv (A 7 1) t with
    | none => if btr m (muc A n t) then (some (muc A n t), t) else (m, b)
    | some t' => obL A n k t' (if btr m (muc A n t) then some (muc A n t) else m) (if btr m (muc A n t) then t else b)
section BEST
variable {sc : List Int32} {h : List ms_C} {Q : Option Value → List ms_C → Prop} {a b c : Nat} {t : List Nat} {be : List Int32} {A B : AS}
theorem putOtherwise_wp (hp : OA h a t be) (hT : TA h b A) (hU : TA h c B) (hG : AG A) (ht : TW (A 7 1) t) (hd : b + 7 ≤ c ∨ c + 7 ≤ b) (hd2 : a + 3 ≤ c ∨ c + 7 ≤ a) {l3 : Option Value} (k : ∀ h1, TA h1 c (perA A t) → Off h h1 c 7 → Q none h1) : WP sc 2 0 [some (.ref a), some (.ref b), some (.ref c), l3] [] h Q := by
  obtain ⟨⟨G1, G2⟩, ⟨G3, G4⟩, G5, G6, G7⟩ := hG
  have hIc : (ms_is h c 4).isSome = true := by
    obtain ⟨kd, we, us, di, st, wo, z0, -⟩ := hU
    rw [i_obj z0]; rfl
  simp (disch := first | assumption | exact wn2_i | exact wn2_r | exact wn2_n | exact Nat.le_of_ble_eq_true rfl | omega | (refine nI_z ?_ ?_ <;> omega)) only [s2_0, s2_1, s2_2, wX_some, Option.toList_some, Option.toList_none, List.cons_append, List.nil_append, List.map_cons, List.map_nil, List.sum_cons, List.sum_nil, Value.category, wn2_i, wn2_r, wn2_n, Option.isSome_some, List.getElem?_cons_zero, List.getElem?_cons_succ, nI_add, nI_rem2]
  refine become_wp hU hT (by omega) G2 G4 (fun h1 hT1 ho1 => ?_)
  have key : ∀ i, i ≤ A 7 1 → ∀ h1, TA h1 c (perTo A t i) → Off h h1 c 7 → WP sc 2 7 [some (.ref a), some (.ref b), some (.ref c), some (.int (nI i))] [] h1 Q := by
    refine loop_up ?_ ?_
    · intro h1 hT1 ho
      have hb1 := hT.off ho (by omega)
      obtain ⟨kd, we, us, di, st, wo, hg, hi, hI, -⟩ := hb1.facts
      rw [s2_7]
      simp (disch := first | assumption | exact wn2_i | exact wn2_r | exact wn2_n | exact Nat.le_of_ble_eq_true rfl | omega | (refine nI_z ?_ ?_ <;> omega)) only [s2_8, s2_9, s2_12, s2_15, s2_16, s2_19, s2_20, s2_21, s2_24, s2_25, s2_28, s2_29, s2_30, s2_31, s2_32, s2_35, s2_38, wX_some, Option.toList_some, Option.toList_none, List.cons_append, List.nil_append, List.map_cons, List.map_nil, List.sum_cons, List.sum_nil, Value.category, wn2_i, wn2_r, wn2_n, Option.isSome_some, List.getElem?_cons_zero, List.getElem?_cons_succ, nI_add, nI_rem2, hg, nI_leI, Nat.le_refl, if_true]
      refine k _ ?_ ho
      obtain ⟨kd, we, us, di, st, wo, z0, z1, j1, j2, j3, j4, j5, j6⟩ := hT1
      exact ⟨kd, we, us, di, st, wo, z0, z1, j1, j2, j3, j4, j5, j6.to (Nat.le_refl _) (fun i hi => by
        have hi : i < A 7 1 := hi
        show (if i < A 7 1 then A 3 (t.getD i 0) else A 3 i) = A 3 (t.getD i 0)
        rw [if_pos hi])⟩
    · intro i hlt ih h1 hT1 ho
      have hb1 := hT.off ho (by omega)
      have ho1 : OA h1 a t be := hp.offX (ho.x (P := fun i => c ≤ i ∧ i < c + 7) (fun i x1 x2 => ⟨x1, x2⟩)) (fun i x1 x2 => by omega)
      obtain ⟨z0, z1, z2, zg⟩ := ho1
      have hgo := g_obj z0
      have ao := a_arr z1
      have e1 : (t.map nI).length = 6 := by rw [List.length_map]; exact ht.1.1
      obtain ⟨kd, we, us, di, st, wo, hg, hi, hI, a1, a2, a3, a4, a5, a6, g1, g2, g3, g4, g5, g6, k1, k2, k3, k4, k5, k6, hlen⟩ := hb1.facts
      obtain ⟨kd', we', us', di', st', wo', hg', hi', hI', a1', a2', a3', a4', a5', a6', g1', g2', g3', g4', g5', g6', k1', k2', k3', k4', k5', k6', hlen'⟩ := hT1.facts
      have hti := ht.2 i hlt
      have v := k6.2 _ hti
      have hge : ¬ nI (A 7 1) ≤ nI i := nI_ge hlt (by omega)
      have hgc : ms_get h1 c 4 5 = some (.ref (c + 6)) := hg' 5
      rw [s2_7]
      simp (disch := first | assumption | exact wn2_i | exact wn2_r | exact wn2_n | exact Nat.le_of_ble_eq_true rfl | omega | (refine nI_z ?_ ?_ <;> omega)) only [s2_8, s2_9, s2_12, s2_15, s2_16, s2_19, s2_20, s2_21, s2_24, s2_25, s2_28, s2_29, s2_30, s2_31, s2_32, s2_35, wX_some, Option.toList_some, Option.toList_none, List.cons_append, List.nil_append, List.map_cons, List.map_nil, List.sum_cons, List.sum_nil, Value.category, wn2_i, wn2_r, wn2_n, Option.isSome_some, List.getElem?_cons_zero, List.getElem?_cons_succ, nI_add, nI_rem2, hg, hge, if_false, hgc, hgo, ao, e1, iat_n, mp_get, a6, g6, v, a6', g6']
      refine ih _ ?_ (ho.st (by omega) (by omega))
      have := TA.arr (d := 5) hT1 (by omega) (l := wo'.set i (nI (A 3 (t.getD i 0)))) (f := up1 (perTo A t i 3) i (A 3 (t.getD i 0))) (k6'.put (by omega))
      have e9 : perTo A t (i + 1) = fun d => if d = 3 then up1 (perTo A t i 3) i (A 3 (t.getD i 0)) else perTo A t i d := by
        funext d
        by_cases hc : d = 3
        · subst hc
          funext j
          show (if j < i + 1 then _ else _) = (if j = i then _ else if j < i then _ else _)
          by_cases hj : j = i
          · subst hj; simp
          · by_cases hj2 : j < i
            · rw [if_pos (by omega), if_neg hj, if_pos hj2]
            · rw [if_neg (by omega), if_neg hj, if_neg hj2]
        · simp [perTo, hc]
      rw [e9]
      exact this
  simp (disch := first | assumption | exact wn2_i | exact wn2_r | exact wn2_n | exact Nat.le_of_ble_eq_true rfl | omega | (refine nI_z ?_ ?_ <;> omega)) only [s2_5, s2_6, wX_some, Option.toList_some, Option.toList_none, List.cons_append, List.nil_append, List.map_cons, List.map_nil, List.sum_cons, List.sum_nil, Value.category, wn2_i, wn2_r, wn2_n, Option.isSome_some, List.getElem?_cons_zero, List.getElem?_cons_succ, nI_add, nI_rem2]
  refine key 0 (by omega) h1 ?_ ho1
  have : perTo A t 0 = A := by
    funext d
    by_cases hc : d = 3
    · subst hc; funext j; simp [perTo]
    · simp [perTo, hc]
  rw [this]
  exact hT1
end BEST
