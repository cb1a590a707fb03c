-- the runs of the small machine are the machine's
theorem ms_hd {bs : ByteArray} {pc : Nat} {ins : Instr} {len k : Nat} (hd : decode bs pc = .ok (ins, len)) (hl : (len == k) = true) : decode bs pc = .ok (ins, k) := by
  rw [hd, eq_of_beq hl]
section MONO
variable {y : Nat} {sc : List Int32} {r : Option Value} {h' : List ms_C} {K : ms_KT} {CA : ms_CT} {pc : Nat} {L : List (Option Value)} {S : List Value} {h : List ms_C}
theorem ms_call_mono (hK : ∀ pc L S h, K pc L S h = some (r, h') → ms_P h h') (hCA : ∀ z L0 h r1 h1, CA z L0 h = some (r1, h1) → ms_P h h1) {kind z : Nat} (ee : ms_call y pc K CA kind z L S h = some (r, h')) : ms_P h h' := by
  obtain ⟨r1, h1, g1, g2, g3, g4, g5, g6, g7, g8⟩ := ms_call_some ee
  exact (hCA _ _ _ _ _ g7).tr (hK _ _ _ _ g8)
theorem ms_mset {f : ms_C → ms_C} (hK : ∀ pc L S h, K pc L S h = some (r, h') → ms_P h h') {a : Nat} {x z : ms_C} {pc : Nat} {L : List (Option Value)} {S : List Value} (hz : h[a]? = some z) (hs : ms_cs x = ms_cs z) (ee : K pc L S (h.set a x) = some (r, h')) : ms_P h h' := (hK _ _ _ _ ee).st hz hs
set_option maxHeartbeats 4000000 in
theorem ms_step_mono (hK : ∀ pc L S h, K pc L S h = some (r, h') → ms_P h h') (hCA : ∀ z L0 h r1 h1, CA z L0 h = some (r1, h1) → ms_P h h1) {ins : Instr} (ee : ms_step sc y pc K CA ins L S h = some (r, h')) : ms_P h h' := by
  cases ins
  case putfield i =>
    simp only [ms_step] at ee
    repeat' split at ee
    all_goals first
      | cases ee
      | (rename_i hfs hc; exact (hK _ _ _ _ ee).st hfs (by simp [ms_cs, hc.1]))
  case iastore =>
    simp only [ms_step] at ee
    repeat' split at ee
    all_goals first
      | cases ee
      | (rename_i hh _ _ _; exact (hK _ _ _ _ ee).st hh (by simp [ms_cs]))
  case castore =>
    simp only [ms_step] at ee
    repeat' split at ee
    all_goals first
      | cases ee
      | (rename_i hh _ _ _; exact (hK _ _ _ _ ee).st hh (by simp [ms_cs]))
  case aastore =>
    simp only [ms_step] at ee
    repeat' split at ee
    all_goals first
      | cases ee
      | (rename_i hh _ _ _ _; exact (hK _ _ _ _ ee).st hh (by simp [ms_cs]))
  case newarray t =>
    simp only [ms_step] at ee
    repeat' split at ee
    all_goals first
      | cases ee
      | exact (hK _ _ _ _ ee).ap
  case anewarray i =>
    simp only [ms_step] at ee
    repeat' split at ee
    all_goals first
      | cases ee
      | exact (hK _ _ _ _ ee).ap
  case new i =>
    simp only [ms_step] at ee
    repeat' split at ee
    all_goals first
      | cases ee
      | exact (hK _ _ _ _ ee).ap
  case invokevirtual i =>
    simp only [ms_step] at ee
    repeat' split at ee
    all_goals first
      | cases ee
      | exact ms_call_mono hK hCA ee
  case invokestatic i =>
    simp only [ms_step] at ee
    repeat' split at ee
    all_goals first
      | cases ee
      | exact ms_call_mono hK hCA ee
      | exact hK _ _ _ _ ee
  case invokespecial i =>
    simp only [ms_step] at ee
    repeat' split at ee
    all_goals first
      | cases ee
      | exact ms_call_mono hK hCA ee
      | exact hK _ _ _ _ ee
  case idiv =>
    obtain ⟨xx, yy, S1, g, rfl, hg1, hg2⟩ := ms_bin_some ee
    split at hg1
    · cases hg1
    · cases hg1; exact hK _ _ _ _ hg2
  case irem =>
    obtain ⟨xx, yy, S1, g, rfl, hg1, hg2⟩ := ms_bin_some ee
    split at hg1
    · cases hg1
    · cases hg1; exact hK _ _ _ _ hg2
  case goto o =>
    obtain ⟨t, ht, hk⟩ := ms_go_some ee
    exact hK _ _ _ _ hk
  case ifCond q o =>
    simp only [ms_step] at ee
    split at ee
    · obtain ⟨t, ht, ee⟩ := ms_go_some ee
      split at ee <;> exact hK _ _ _ _ ee
    · cases ee
  case if_icmp q o =>
    simp only [ms_step] at ee
    split at ee
    · obtain ⟨t, ht, ee⟩ := ms_go_some ee
      split at ee <;> exact hK _ _ _ _ ee
    · cases ee
  case tableswitch d lo hi os =>
    simp only [ms_step] at ee
    repeat' split at ee
    all_goals first
      | cases ee
      | (obtain ⟨t, ht, ee⟩ := ms_go_some ee; exact hK _ _ _ _ ee)
  case lookupswitch d ps =>
    simp only [ms_step] at ee
    repeat' split at ee
    all_goals first
      | cases ee
      | (obtain ⟨t, ht, ee⟩ := ms_go_some ee; exact hK _ _ _ _ ee)
  case ireturn =>
    simp only [ms_step] at ee
    repeat' split at ee
    all_goals (cases ee)
    all_goals exact ms_P.rf _
  case return_ =>
    simp only [ms_step] at ee
    repeat' split at ee
    all_goals (cases ee)
    all_goals exact ms_P.rf _
  all_goals first
    | exact hK _ _ _ _ ee
    | (cases (show (none : Option ms_Rs) = some (r, h') from ee); done)
    | (simp only [ms_step] at ee; obtain ⟨xx, yy, S1, g, rfl, hg1, hg2⟩ := ms_bin_some ee; cases hg1; exact hK _ _ _ _ hg2)
    | (simp only [ms_step] at ee; (repeat' split at ee) <;> first | cases ee | exact hK _ _ _ _ ee)
end MONO
section SOUND4
variable {p : Program} {l : Launch} {e : Env} {R : Room} {s : State} {m : MethodId} {args : Array Value} {below : List Frame} {meth : Method} {c : Code} {Q : State → Prop} {y base b : Nat} {dA : Nat → ClassId} {D : va_G} {n0 z0 : Nat} {sc : List Int32} {r : Option Value} {h' : List ms_C} {K : ms_KT} {CA : ms_CT} {pc : Nat} {L : List (Option Value)} {S : List Value} {h : List ms_C}
set_option maxHeartbeats 4000000 in
theorem ms_step_sound (C : ms_Ctx p R s m args meth c y base b dA D n0 z0 sc h') (hend : ms_End p l e R s m args below meth c Q y base b dA D n0 z0 r h') (hK : ∀ pc L S h, K pc L S h = some (r, h') → ms_P h h' ∧ ms_Go p l e R s m args below meth c Q y base b dA D n0 z0 pc L S h)
    (hCA : ∀ z vs h r1 h1, z < 132 → (ms_args vs).length ≤ ms_L z → (∀ v ∈ vs, ∀ x, v ≠ .double x) → CA z (ms_init vs (ms_L z)) h = some (r1, h1) → ms_P h h1 ∧ ms_Met l base b dA D sc z vs h r1 h1)
    {ins : Instr} {len : Nat} (hd : decode (ms_B y) pc = .ok (ins, len)) (hl : ms_lenok ins len = true) (ee : ms_step sc y pc K CA ins L S h = some (r, h')) : ms_P h h' ∧ ms_Go p l e R s m args below meth c Q y base b dA D n0 z0 pc L S h := by
  cases ins
  case iconst n => exact so_iconst C hK (ms_hd hd hl) ee
  case lconst n => exact so_lconst C hK (ms_hd hd hl) ee
  case bipush n => exact so_bipush C hK (ms_hd hd hl) ee
  case sipush n => exact so_sipush C hK (ms_hd hd hl) ee
  case ldc_w i => exact so_ldc_w C hK (ms_hd hd hl) ee
  case ldc2_w i => exact so_ldc2_w C hK (ms_hd hd hl) ee
  case iload_n k => exact so_iload_n C hK (ms_hd hd hl) ee
  case iload k => exact so_iload C hK (ms_hd hd hl) ee
  case lload_n k => exact so_lload_n C hK (ms_hd hd hl) ee
  case lload k => exact so_lload C hK (ms_hd hd hl) ee
  case aload_n k => exact so_aload_n C hK (ms_hd hd hl) ee
  case aload k => exact so_aload C hK (ms_hd hd hl) ee
  case istore_n k => exact so_istore_n C hK (ms_hd hd hl) ee
  case istore k => exact so_istore C hK (ms_hd hd hl) ee
  case astore_n k => exact so_astore_n C hK (ms_hd hd hl) ee
  case lstore_n k => exact so_lstore_n C hK (ms_hd hd hl) ee
  case lstore k => exact so_lstore C hK (ms_hd hd hl) ee
  case iinc k n => exact so_iinc C hK (ms_hd hd hl) ee
  case iadd  => exact so_iadd C hK (ms_hd hd hl) ee
  case isub  => exact so_isub C hK (ms_hd hd hl) ee
  case imul  => exact so_imul C hK (ms_hd hd hl) ee
  case iand  => exact so_iand C hK (ms_hd hd hl) ee
  case ior  => exact so_ior C hK (ms_hd hd hl) ee
  case ishl  => exact so_ishl C hK (ms_hd hd hl) ee
  case ishr  => exact so_ishr C hK (ms_hd hd hl) ee
  case iushr  => exact so_iushr C hK (ms_hd hd hl) ee
  case idiv  => exact so_idiv C hK (ms_hd hd hl) ee
  case irem  => exact so_irem C hK (ms_hd hd hl) ee
  case ladd  => exact so_ladd C hK (ms_hd hd hl) ee
  case lmul  => exact so_lmul C hK (ms_hd hd hl) ee
  case lcmp  => exact so_lcmp C hK (ms_hd hd hl) ee
  case ldiv  => exact so_ldiv C hK (ms_hd hd hl) ee
  case lrem  => exact so_lrem C hK (ms_hd hd hl) ee
  case i2l  => exact so_i2l C hK (ms_hd hd hl) ee
  case l2i  => exact so_l2i C hK (ms_hd hd hl) ee
  case i2c  => exact so_i2c C hK (ms_hd hd hl) ee
  case dup  => exact so_dup C hK (ms_hd hd hl) ee
  case pop  => exact so_pop C hK (ms_hd hd hl) ee
  case dup2  => exact so_dup2 C hK (ms_hd hd hl) ee
  case goto o => exact so_goto C hK (ms_hd hd hl) ee
  case ifCond q o => exact so_ifCond C hK (ms_hd hd hl) ee
  case if_icmp q o => exact so_if_icmp C hK (ms_hd hd hl) ee
  case getfield i => exact so_getfield C hK (ms_hd hd hl) ee
  case putfield i => exact so_putfield C hK (ms_hd hd hl) ee
  case iaload  => exact so_iaload C hK (ms_hd hd hl) ee
  case caload  => exact so_caload C hK (ms_hd hd hl) ee
  case iastore  => exact so_iastore C hK (ms_hd hd hl) ee
  case castore  => exact so_castore C hK (ms_hd hd hl) ee
  case aaload  => exact so_aaload C hK (ms_hd hd hl) ee
  case aastore  => exact so_aastore C hK (ms_hd hd hl) ee
  case arraylength  => exact so_arraylength C hK (ms_hd hd hl) ee
  case newarray t => exact so_newarray C hK (ms_hd hd hl) ee
  case anewarray i => exact so_anewarray C hK (ms_hd hd hl) ee
  case new i => exact so_new C hK (ms_hd hd hl) ee
  case tableswitch d lo hi os => exact so_tableswitch C hK hd ee
  case lookupswitch d ps => exact so_lookupswitch C hK hd ee
  case invokestatic i => exact so_invokestatic C hK hCA (ms_hd hd hl) ee
  case invokevirtual i => exact so_invokevirtual C hK hCA (ms_hd hd hl) ee
  case invokespecial i => exact so_invokespecial C hK hCA (ms_hd hd hl) ee
  case ireturn => exact so_ireturn hend (ms_hd hd hl) ee
  case return_ => exact so_return hend (ms_hd hd hl) ee
  all_goals cases (show (none : Option ms_Rs) = some (r, h') from ee)
end SOUND4
theorem ms_lwgood {s : State} {args : Array Value} {ws : List Cond} (h : ∀ w ∈ ws, w.before args s = true) (hg : ∀ w ∈ lw_good, w ∈ ws) : ∀ w ∈ lw_good, w.before args s = true := fun w hw => h w (hg w hw)
theorem ms_sound (l : Launch) (base b : Nat) (dA : Nat → ClassId) (D : va_G) (sc : List Int32) : ∀ (f y pc : Nat) (L : List (Option Value)) (S : List Value) (h : List ms_C) (r : Option Value) (h' : List ms_C), ms_run sc f y pc L S h = some (r, h') →
    ms_P h h' ∧ ∀ {p : Program} {e : Env} {R : Room} {s : State} {m : MethodId} {args : Array Value} {below : List Frame} {meth : Method} {c : Code} {Q : State → Prop} {n0 z0 : Nat}, ms_Ctx p R s m args meth c y base b dA D n0 z0 sc h' → ms_End p l e R s m args below meth c Q y base b dA D n0 z0 r h' → ms_Go p l e R s m args below meth c Q y base b dA D n0 z0 pc L S h := by
  intro f
  induction f with
  | zero => intro y pc L S h r h' ee; cases ee
  | succ f ih =>
    intro y pc L S h r h' ee
    have met : ∀ z vs h r1 h1, z < 132 → (ms_args vs).length ≤ ms_L z → (∀ v ∈ vs, ∀ x, v ≠ .double x) → ms_run sc f z 0 (ms_init vs (ms_L z)) [] h = some (r1, h1) → ms_P h h1 ∧ ms_Met l base b dA D sc z vs h r1 h1 := by
      intro z vs h r1 h1 hz hn hnd hrun
      obtain ⟨hp, hgo⟩ := ih z 0 _ _ h r1 h1 hrun
      refine ⟨hp, ?_⟩
      refine Met.ofW (cc := ms_B z) (maxL := ms_L z) (ret := ms_R z) (gd_plain hz).1 rfl ?_
      intro p e s m args below meth c s₁ B hml hv
      obtain ⟨rfl, hsz, hP, hK, hX⟩ := hv
      have hts := atoms_spec (ws := ms_w z) B.pre
      have hlocks := B.notSynchronized
      have hp1 := hp.1
      have hp2 := hp.2
      rw [lg_entry_eq]
      refine hgo (n0 := h.length) (z0 := ms_sz h) ⟨B.exec, B.bytes, hml, by rw [(gd_cls hz).1]; exact findClass_of_methodNamed B.named, fun w hw => hts w (List.mem_cons_of_mem _ hw), hK, fun hn => (name_of_methodNamed B.named B.method).1.trans hn, Nat.le_refl _, Nat.le_refl _, hX, by show h1.length ≤ h.length + (h1.length - h.length); omega, by show ms_sz h1 ≤ ms_sz h + (ms_sz h1 - ms_sz h); omega, hsz⟩ ?_ _ _ _ _ _ (ms_lv.init hnd hn) ⟨hsz, rfl, hsz, rfl, hP, va_S.rf⟩
      intro pc1 ls1 H1 locs1 cells1 slots1 hret hr1
      obtain ⟨q1, q2, q3, q4, q5, q6⟩ := hr1
      have hc : cells1 = h1.length - h.length := by omega
      have hs : slots1 = ms_sz h1 - ms_sz h := by omega
      subst hc; subst hs
      rcases hret with ⟨x, rfl, hd, hR⟩ | ⟨rfl, hd, hR⟩
      · rcases hR with hR | ⟨hR, hx⟩
        · exact W.iret B.exec B.bytes (B.returns.trans hR) (fun t ht hW => ⟨rfl, by rw [ht]; exact q1, by rw [ht]; exact q5, q6.F ht⟩) q6.2.2 hd
        · exact W.zret (ty := .boolean) B.exec B.bytes (B.returns.trans hR) (by rcases hx with rfl | rfl <;> rfl) (fun t ht hW => ⟨rfl, by rw [ht]; exact q1, by rw [ht]; exact q5, q6.F ht⟩) q6.2.2 hd
      · exact W.vret B.exec B.bytes (B.returns.trans hR) (fun t ht hW => ⟨rfl, by rw [ht]; exact q1, by rw [ht]; exact q5, q6.F ht⟩) q6.2.2 hd
    unfold ms_run at ee
    split at ee
    · rename_i ins len hd
      split at ee
      · rename_i hl
        refine ⟨?_, fun C hend => ?_⟩
        · exact ms_step_mono (fun pc L S h ek => (ih y pc L S h r h' ek).1) (fun z L0 h r1 h1 ek => (ih z 0 L0 [] h r1 h1 ek).1) ee
        · exact (ms_step_sound C hend (fun pc L S h ek => ⟨(ih y pc L S h r h' ek).1, (ih y pc L S h r h' ek).2 C hend⟩) (fun z vs h r1 h1 hz hn hnd ek => met z vs h r1 h1 hz hn hnd ek) hd hl ee).2
      · cases ee
    · cases ee
