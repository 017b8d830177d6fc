section Clo
variable {p : Program} {l : Launch} {e : Env} {R : Room} {s : State} {m : MethodId} {args : Array Value} {below : List Frame} {meth : Method} {c0 : Code} {Fin : State → Prop}
variable {S : Nat × (Nat → Int32)} {T : Nat → eM} {C : eC} {M : eM} {d : Nat} {Q : eQ} {D : va_G} {dA : Nat → ClassId} {base b0 : Nat} {K0 : eK}
set_option maxHeartbeats 4000000 in
set_option maxRecDepth 100000 in
theorem e_close (cx : eCx p l e R s m args below meth c0 D dA base b0 S T C M d Q Fin K0) : ∀ (pc : Nat) (ls : eL) (st : List Value) (h : eH) (kc ks : Nat), eStep S T C M d Q K0 pc ls st h kc ks → eSim p l e R s m args below meth c0 D dA base b0 (mLo M) Fin pc ls st h kc ks := by
  intro pc ls st h kc ks hstep H locs lsA hR hSS hl
  have cx0 := cx
  obtain ⟨hK0, hx, hb, hml, hown, hG, hE, hOK, hCl, hCa, hinit, hRf, hRl, hd1, hRc, hRs, htab, hC, hdC, hfin, hout, hthr⟩ := cx0
  obtain ⟨hOKc, hOKl, hOKh⟩ := hOK
  unfold eStep at hstep
  split at hstep
  rotate_left
  · exact hstep.elim
  rename_i i n a b c heq
  have hmem := eAt_mem heq
  have hlk := hOKl _ hmem
  have hchk := hOKc _ hmem
  simp only [eChk, Bool.and_eq_true, decide_eq_true_eq, beq_iff_eq] at hchk
  obtain ⟨⟨hd, hn⟩, hi⟩ := hchk
  clear hmem heq
  cases i
  case aload_n j => exact ei_aload_n cx j hd hn hi hlk hR hSS hl hstep
  case iload_n j => exact ei_iload_n cx j hd hn hi hlk hR hSS hl hstep
  case lload_n j => exact ei_lload_n cx j hd hn hi hlk hR hSS hl hstep
  case aload j => exact ei_aload cx j hd hn hi hlk hR hSS hl hstep
  case iload j => exact ei_iload cx j hd hn hi hlk hR hSS hl hstep
  case lload j => exact ei_lload cx j hd hn hi hlk hR hSS hl hstep
  case fload j => exact ei_fload cx j hd hn hi hlk hR hSS hl hstep
  case dload j => exact ei_dload cx j hd hn hi hlk hR hSS hl hstep
  case astore_n j => exact ei_astore_n cx j hd hn hi hlk hR hSS hl hstep
  case istore_n j => exact ei_istore_n cx j hd hn hi hlk hR hSS hl hstep
  case astore j => exact ei_astore cx j hd hn hi hlk hR hSS hl hstep
  case istore j => exact ei_istore cx j hd hn hi hlk hR hSS hl hstep
  case fstore j => exact ei_fstore cx j hd hn hi hlk hR hSS hl hstep
  case lstore_n j => exact ei_lstore_n cx j hd hn hi hlk hR hSS hl hstep
  case lstore j => exact ei_lstore cx j hd hn hi hlk hR hSS hl hstep
  case dstore j => exact ei_dstore cx j hd hn hi hlk hR hSS hl hstep
  case iinc j v9 => exact ei_iinc cx j v9 hd hn hi hlk hR hSS hl hstep
  case iconst v9 => exact ei_iconst cx v9 hd hn hi hlk hR hSS hl hstep
  case bipush v9 => exact ei_bipush cx v9 hd hn hi hlk hR hSS hl hstep
  case sipush v9 => exact ei_sipush cx v9 hd hn hi hlk hR hSS hl hstep
  case ldc x9 => exact ei_ldc cx x9 hd hn hi hlk hR hSS hl hstep
  case ldc_w x9 => exact ei_ldc_w cx x9 hd hn hi hlk hR hSS hl hstep
  case lconst v9 => exact ei_lconst cx v9 hd hn hi hlk hR hSS hl hstep
  case ldc2_w x9 => exact ei_ldc2_w cx x9 hd hn hi hlk hR hSS hl hstep
  case fconst v9 => exact ei_fconst cx v9 hd hn hi hlk hR hSS hl hstep
  case dconst v9 => exact ei_dconst cx v9 hd hn hi hlk hR hSS hl hstep
  case iadd => exact ei_iadd cx hd hn hi hlk hR hSS hl hstep
  case isub => exact ei_isub cx hd hn hi hlk hR hSS hl hstep
  case imul => exact ei_imul cx hd hn hi hlk hR hSS hl hstep
  case iand => exact ei_iand cx hd hn hi hlk hR hSS hl hstep
  case ior => exact ei_ior cx hd hn hi hlk hR hSS hl hstep
  case ixor => exact ei_ixor cx hd hn hi hlk hR hSS hl hstep
  case ishl => exact ei_ishl cx hd hn hi hlk hR hSS hl hstep
  case ishr => exact ei_ishr cx hd hn hi hlk hR hSS hl hstep
  case iushr => exact ei_iushr cx hd hn hi hlk hR hSS hl hstep
  case irem => exact ei_irem cx hd hn hi hlk hR hSS hl hstep
  case ineg => exact ei_ineg cx hd hn hi hlk hR hSS hl hstep
  case i2l => exact ei_i2l cx hd hn hi hlk hR hSS hl hstep
  case i2f => exact ei_i2f cx hd hn hi hlk hR hSS hl hstep
  case i2d => exact ei_i2d cx hd hn hi hlk hR hSS hl hstep
  case l2i => exact ei_l2i cx hd hn hi hlk hR hSS hl hstep
  case ladd => exact ei_ladd cx hd hn hi hlk hR hSS hl hstep
  case lsub => exact ei_lsub cx hd hn hi hlk hR hSS hl hstep
  case lmul => exact ei_lmul cx hd hn hi hlk hR hSS hl hstep
  case land => exact ei_land cx hd hn hi hlk hR hSS hl hstep
  case lor => exact ei_lor cx hd hn hi hlk hR hSS hl hstep
  case lxor => exact ei_lxor cx hd hn hi hlk hR hSS hl hstep
  case lcmp => exact ei_lcmp cx hd hn hi hlk hR hSS hl hstep
  case lshl => exact ei_lshl cx hd hn hi hlk hR hSS hl hstep
  case lushr => exact ei_lushr cx hd hn hi hlk hR hSS hl hstep
  case fdiv => exact ei_fdiv cx hd hn hi hlk hR hSS hl hstep
  case ddiv => exact ei_ddiv cx hd hn hi hlk hR hSS hl hstep
  case f2d => exact ei_f2d cx hd hn hi hlk hR hSS hl hstep
  case fcmp op => exact ei_fcmp cx op hd hn hi hlk hR hSS hl hstep
  case dcmp op => exact ei_dcmp cx op hd hn hi hlk hR hSS hl hstep
  case dup => exact ei_dup cx hd hn hi hlk hR hSS hl hstep
  case pop => exact ei_pop cx hd hn hi hlk hR hSS hl hstep
  case dup2 => exact ei_dup2 cx hd hn hi hlk hR hSS hl hstep
  case ifCond cd off => exact ei_ifCond cx cd off hd hn hi hlk hR hSS hl hstep
  case if_icmp cd off => exact ei_if_icmp cx cd off hd hn hi hlk hR hSS hl hstep
  case goto off => exact ei_goto cx off hd hn hi hlk hR hSS hl hstep
  case tableswitch dflt lo hi9 offs => exact ei_tableswitch cx dflt lo hi9 offs hd hn hi hlk hR hSS hl hstep
  case getfield x9 => exact ei_getfield cx x9 hd hn hi hlk hR hSS hl hstep
  case putfield x9 => exact ei_putfield cx x9 hd hn hi hlk hR hSS hl hstep
  case arraylength => exact ei_arraylength cx hd hn hi hlk hR hSS hl hstep
  case iaload => exact ei_iaload cx hd hn hi hlk hR hSS hl hstep
  case baload => exact ei_baload cx hd hn hi hlk hR hSS hl hstep
  case laload => exact ei_laload cx hd hn hi hlk hR hSS hl hstep
  case daload => exact ei_daload cx hd hn hi hlk hR hSS hl hstep
  case aaload => exact ei_aaload cx hd hn hi hlk hR hSS hl hstep
  case iastore => exact ei_iastore cx hd hn hi hlk hR hSS hl hstep
  case bastore => exact ei_bastore cx hd hn hi hlk hR hSS hl hstep
  case lastore => exact ei_lastore cx hd hn hi hlk hR hSS hl hstep
  case dastore => exact ei_dastore cx hd hn hi hlk hR hSS hl hstep
  case aastore => exact ei_aastore cx hd hn hi hlk hR hSS hl hstep
  case newarray at9 => exact ei_newarray cx at9 hd hn hi hlk hR hSS hl hstep
  case anewarray x9 => exact ei_anewarray cx x9 hd hn hi hlk hR hSS hl hstep
  case new x9 => exact ei_new cx x9 hd hn hi hlk hR hSS hl hstep
  case invokevirtual x9 => exact ei_invokevirtual cx x9 hd hn hi hlk hR hSS hl hstep
  case invokestatic x9 => exact ei_invokestatic cx x9 hd hn hi hlk hR hSS hl hstep
  case invokespecial x9 => exact ei_invokespecial cx x9 hd hn hi hlk hR hSS hl hstep
  case lreturn => exact ei_lreturn cx hd hn hi hlk hR hSS hl hstep
  case freturn => exact ei_freturn cx hd hn hi hlk hR hSS hl hstep
  case dreturn => exact ei_dreturn cx hd hn hi hlk hR hSS hl hstep
  case areturn => exact ei_areturn cx hd hn hi hlk hR hSS hl hstep
  case ireturn => exact ei_ireturn cx hd hn hi hlk hR hSS hl hstep
  case return_ => exact ei_return_ cx hd hn hi hlk hR hSS hl hstep
  all_goals exact False.elim hstep
end Clo
