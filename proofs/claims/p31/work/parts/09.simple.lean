section MMO
theorem mm_op_mono {fld : Nat → Nat × Nat} {op a : Nat} {b : Int} {ls ls' : mm_F} {st st' : List mm_V} {h h' : mm_H} {j : Option Nat} (hop : mm_op fld op a b ls st h = some (ls', (st', (h', j)))) : h.2.1 ≤ h'.2.1 ∧ h.2.2.1 ≤ h'.2.2.1 ∧ h'.2.2.2 = h.2.2.2 := by
  unfold mm_op mm_o_load mm_o_aload mm_o_store mm_o_astore mm_o_bin mm_o_if mm_o_icmp mm_o_iinc mm_o_null mm_o_get mm_o_put mm_o_putF mm_o_iald mm_o_iast mm_o_aald mm_o_aast mm_o_alen mm_o_newa mm_push mm_o_max at hop
  repeat' split at hop
  all_goals first
    | (cases hop; exact ⟨Nat.le_refl _, Nat.le_refl _, rfl⟩)
    | (cases hop; exact ⟨Nat.le_succ _, Nat.le_add_right _ _, rfl⟩)
    | cases hop
theorem mm_mono : ∀ (n y i : Nat) (ls : mm_F) (st : List mm_V) (h : mm_H) (o : mm_O) (h' : mm_H), mm_go n y i ls st h = some (o, h') → h.2.1 ≤ h'.2.1 ∧ h.2.2.1 ≤ h'.2.2.1 ∧ h'.2.2.2 = h.2.2.2 := by
  intro n
  induction n with
  | zero => intro y i ls st h o h' hr; cases hr
  | succ n ih =>
    intro y i ls st h o h' hr
    unfold mm_go mm_run at hr
    split at hr
    · cases hr
    · rename_i pc op a b hc
      split at hr
      · split at hr
        · split at hr
          · exact ih _ _ _ _ _ _ _ hr
          · cases hr
        · split at hr
          · cases hr
          · rename_i ls1 st1 h1 j hop
            obtain ⟨a1, a2, a3⟩ := mm_op_mono hop
            obtain ⟨b1, b2, b3⟩ := ih _ _ _ _ _ _ _ hr
            exact ⟨Nat.le_trans a1 b1, Nat.le_trans a2 b2, b3.trans a3⟩
      · split at hr
        · split at hr
          · cases hr; exact ⟨Nat.le_refl _, Nat.le_refl _, rfl⟩
          · cases hr
        · split at hr
          · split at hr
            · split at hr
              · cases hr; exact ⟨Nat.le_refl _, Nat.le_refl _, rfl⟩
              · cases hr
            · cases hr
          · split at hr
            · split at hr
              · cases hr; exact ⟨Nat.le_refl _, Nat.le_refl _, rfl⟩
              · cases hr
            · split at hr
              · split at hr
                · cases hr; exact ⟨Nat.le_refl _, Nat.le_refl _, rfl⟩
                · cases hr
              · split at hr
                · split at hr
                  · cases hr; exact ⟨Nat.le_succ _, Nat.le_add_right _ _, rfl⟩
                  · cases hr
                · split at hr
                  · dsimp only at hr
                    split at hr
                    · split at hr
                      · cases hr
                      · rename_i v h1 hcal
                        obtain ⟨a1, a2, a3⟩ := ih _ _ _ _ _ _ _ hcal
                        obtain ⟨b1, b2, b3⟩ := ih _ _ _ _ _ _ _ hr
                        exact ⟨Nat.le_trans a1 b1, Nat.le_trans a2 b2, b3.trans a3⟩
                      · rename_i E h1 hcal
                        split at hr
                        · cases hr
                        · split at hr
                          · cases hr
                            exact ih _ _ _ _ _ _ _ hcal
                          · split at hr
                            · cases hr
                              exact ih _ _ _ _ _ _ _ hcal
                            · cases hr
                    · cases hr
                  · cases hr
variable {p : Program} {l : Launch} {e : Env} {R : Room} {s : State} {m : MethodId} {args : Array Value} {below : List Frame} {meth : Method} {c : Code} {H : Heap} {locs : List Loc} {cells slots : Nat} {Q : State → Prop}
variable {g : mm_G} {D : va_G} {y i pc op a : Nat} {b : Int} {ls ls' : mm_F} {st st' : List mm_V} {h h' : mm_H} {j : Option Nat} {rls : Array Slot} {n0 s0 L : Nat} {xs : Nat → Int32}
theorem mm_step (hc : mm_code y i = some (pc, (op, (a, b)))) (h60 : op < 60) (h56 : ¬ op = 56) (hop : mm_op mm_fld op a b ls st h = some (ls', (st', (h', j)))) (X : mm_X y l p R s m args meth c) (K : mm_K g D L xs s) (hS : va_S (mm_A g) s.heap H locs) (hR : mm_Rl g D h H) (hL : mm_LR g (mm_mL y) ls rls) (hst : ∀ v ∈ st, mm_ok v) (hcc : cells + n0 = h.2.1) (hss : slots + s0 = h.2.2.1) (hsc : h.2.2.2 = mm_scr L xs) (hz0 : s.heap.size ≤ g.2.1 + n0) (rc : h'.2.1 ≤ R.cells + n0) (rs : h'.2.2.1 ≤ R.slots + s0)
    (kk : mm_KK p l e R s m args below meth c Q g D y n0 s0 L xs (mm_nx y (j.getD (i + 1))) ls' st' h') : W p l e R s m args below meth c H locs cells slots Q (F0 m pc rls (st.map (mm_up g.1 g.2.1))) := by
  have ho : op = 0 ∨ op = 1 ∨ op = 2 ∨ op = 3 ∨ op = 4 ∨ op = 5 ∨ op = 6 ∨ op = 7 ∨ op = 8 ∨ op = 9 ∨ op = 10 ∨ op = 11 ∨ op = 12 ∨ op = 13 ∨ op = 14 ∨ op = 15 ∨ op = 16 ∨ op = 17 ∨ op = 18 ∨ op = 19 ∨ op = 20 ∨ op = 21 ∨ op = 22 ∨ op = 23 ∨ op = 24 ∨ op = 25 ∨ op = 26 ∨ op = 27 ∨ op = 28 ∨ op = 29 ∨ op = 30 ∨ op = 31 ∨ op = 32 ∨ op = 33 ∨ op = 34 ∨ op = 35 ∨ op = 36 ∨ op = 37 ∨ op = 38 ∨ op = 39 ∨ op = 40 ∨ op = 41 ∨ op = 42 ∨ op = 43 ∨ op = 44 ∨ op = 45 ∨ op = 46 ∨ op = 47 ∨ op = 48 ∨ op = 49 ∨ op = 50 ∨ op = 51 ∨ op = 52 ∨ op = 53 ∨ op = 54 ∨ op = 55 ∨ op = 57 ∨ op = 58 ∨ op = 59 := by omega
  rcases ho with rfl | rfl | rfl | rfl | rfl | rfl | rfl | rfl | rfl | rfl | rfl | rfl | rfl | rfl | rfl | rfl | rfl | rfl | rfl | rfl | rfl | rfl | rfl | rfl | rfl | rfl | rfl | rfl | rfl | rfl | rfl | rfl | rfl | rfl | rfl | rfl | rfl | rfl | rfl | rfl | rfl | rfl | rfl | rfl | rfl | rfl | rfl | rfl | rfl | rfl | rfl | rfl | rfl | rfl | rfl | rfl | rfl | rfl | rfl
  · exact mm_step_iconst hc hop X K hS hR hL hst hcc hss hsc hz0 rc rs kk
  · exact mm_step_bipush hc hop X K hS hR hL hst hcc hss hsc hz0 rc rs kk
  · exact mm_step_sipush hc hop X K hS hR hL hst hcc hss hsc hz0 rc rs kk
  · exact mm_step_iload_n hc hop X K hS hR hL hst hcc hss hsc hz0 rc rs kk
  · exact mm_step_iload hc hop X K hS hR hL hst hcc hss hsc hz0 rc rs kk
  · exact mm_step_aload_n hc hop X K hS hR hL hst hcc hss hsc hz0 rc rs kk
  · exact mm_step_aload hc hop X K hS hR hL hst hcc hss hsc hz0 rc rs kk
  · exact mm_step_istore_n hc hop X K hS hR hL hst hcc hss hsc hz0 rc rs kk
  · exact mm_step_istore hc hop X K hS hR hL hst hcc hss hsc hz0 rc rs kk
  · exact mm_step_astore_n hc hop X K hS hR hL hst hcc hss hsc hz0 rc rs kk
  · exact mm_step_astore hc hop X K hS hR hL hst hcc hss hsc hz0 rc rs kk
  · exact mm_step_iadd hc hop X K hS hR hL hst hcc hss hsc hz0 rc rs kk
  · exact mm_step_isub hc hop X K hS hR hL hst hcc hss hsc hz0 rc rs kk
  · exact mm_step_imul hc hop X K hS hR hL hst hcc hss hsc hz0 rc rs kk
  · exact mm_step_idiv hc hop X K hS hR hL hst hcc hss hsc hz0 rc rs kk
  · exact mm_step_irem hc hop X K hS hR hL hst hcc hss hsc hz0 rc rs kk
  · exact mm_step_ishl hc hop X K hS hR hL hst hcc hss hsc hz0 rc rs kk
  · exact mm_step_ishr hc hop X K hS hR hL hst hcc hss hsc hz0 rc rs kk
  · exact mm_step_iand hc hop X K hS hR hL hst hcc hss hsc hz0 rc rs kk
  · exact mm_step_ior hc hop X K hS hR hL hst hcc hss hsc hz0 rc rs kk
  · exact mm_step_iinc hc hop X K hS hR hL hst hcc hss hsc hz0 rc rs kk
  · exact mm_step_dup hc hop X K hS hR hL hst hcc hss hsc hz0 rc rs kk
  · exact mm_step_dup2 hc hop X K hS hR hL hst hcc hss hsc hz0 rc rs kk
  · exact mm_step_pop hc hop X K hS hR hL hst hcc hss hsc hz0 rc rs kk
  · exact mm_step_goto hc hop X K hS hR hL hst hcc hss hsc hz0 rc rs kk
  · exact mm_step_if_eq hc hop X K hS hR hL hst hcc hss hsc hz0 rc rs kk
  · exact mm_step_if_ne hc hop X K hS hR hL hst hcc hss hsc hz0 rc rs kk
  · exact mm_step_if_lt hc hop X K hS hR hL hst hcc hss hsc hz0 rc rs kk
  · exact mm_step_if_ge hc hop X K hS hR hL hst hcc hss hsc hz0 rc rs kk
  · exact mm_step_if_gt hc hop X K hS hR hL hst hcc hss hsc hz0 rc rs kk
  · exact mm_step_if_le hc hop X K hS hR hL hst hcc hss hsc hz0 rc rs kk
  · exact mm_step_icmp_eq hc hop X K hS hR hL hst hcc hss hsc hz0 rc rs kk
  · exact mm_step_icmp_ne hc hop X K hS hR hL hst hcc hss hsc hz0 rc rs kk
  · exact mm_step_icmp_lt hc hop X K hS hR hL hst hcc hss hsc hz0 rc rs kk
  · exact mm_step_icmp_ge hc hop X K hS hR hL hst hcc hss hsc hz0 rc rs kk
  · exact mm_step_icmp_gt hc hop X K hS hR hL hst hcc hss hsc hz0 rc rs kk
  · exact mm_step_icmp_le hc hop X K hS hR hL hst hcc hss hsc hz0 rc rs kk
  · exact mm_step_ifnull hc hop X K hS hR hL hst hcc hss hsc hz0 rc rs kk
  · exact mm_step_ifnonnull hc hop X K hS hR hL hst hcc hss hsc hz0 rc rs kk
  · exact mm_step_aconst_null hc hop X K hS hR hL hst hcc hss hsc hz0 rc rs kk
  · exact mm_step_getfield hc hop X K hS hR hL hst hcc hss hsc hz0 rc rs kk
  · exact mm_step_putfield hc hop X K hS hR hL hst hcc hss hsc hz0 rc rs kk
  · exact mm_step_putfieldF hc hop X K hS hR hL hst hcc hss hsc hz0 rc rs kk
  · exact mm_step_iaload hc hop X K hS hR hL hst hcc hss hsc hz0 rc rs kk
  · exact mm_step_iastore hc hop X K hS hR hL hst hcc hss hsc hz0 rc rs kk
  · cases hop
  · cases hop
  · exact mm_step_aaload hc hop X K hS hR hL hst hcc hss hsc hz0 rc rs kk
  · exact mm_step_aastore hc hop X K hS hR hL hst hcc hss hsc hz0 rc rs kk
  · exact mm_step_arraylength hc hop X K hS hR hL hst hcc hss hsc hz0 rc rs kk
  · exact mm_step_new hc hop X K hS hR hL hst hcc hss hsc hz0 rc rs kk
  · exact mm_step_newarray hc hop X K hS hR hL hst hcc hss hsc hz0 rc rs kk
  · cases hop
  · exact mm_step_anewarray hc hop X K hS hR hL hst hcc hss hsc hz0 rc rs kk
  · cases hop
  · exact mm_step_ldc hc hop X K hS hR hL hst hcc hss hsc hz0 rc rs kk
  · exact mm_step_objInit hc hop X K hS hR hL hst hcc hss hsc hz0 rc rs kk
  · exact mm_step_mmax hc hop X K hS hR hL hst hcc hss hsc hz0 rc rs kk
  · exact mm_step_mmin hc hop X K hS hR hL hst hcc hss hsc hz0 rc rs kk
end MMO
