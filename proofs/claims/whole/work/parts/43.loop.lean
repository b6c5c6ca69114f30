theorem law_more {L i : Nat} (hL : L ≤ 2560) (hi : i ≤ L) (h : ¬ nI L - 5 < nI i) : i + 5 ≤ L := by
  have h5 : (5 : Int32).toInt = 5 := by decide
  have e : (nI L - 5).toInt = (L : Int) - 5 := by rw [Int32.toInt_sub, nI_toInt (by omega), h5, Int.bmod_eq_of_le_mul_two (by omega) (by omega)]
  rw [Int32.lt_iff_toInt_lt, e, nI_toInt (by omega)] at h
  omega

set_option maxHeartbeats 40000000 in
set_option maxRecDepth 100000 in
theorem law_loop {p : Program} {l : Launch} {e : Env} {s : State} {m : MethodId} {below : List Frame} {meth : Method} {c : Code} {b L : Nat} {xs : Nat → Int32} {D : va_G} {cI cZ : ClassId} {o h h1 h2 h3 h4 h5 ja ka ka1 ka2 ka3 ka4 ka5 jb kb kb1 kb2 kb3 kb4 kb5 t t1 t2 t3 t4 t5 n n1 n2 n3 g mm m1 m2 m3 m4 m5 m6 m7 m8 m9 : Nat} (C0 : lw_At p s m meth c b L xs) (hL : L ≤ 2560) (hK : KN D cI cZ s) : ∀ (N i : Nat), i ≤ L → L < i + N → ∀ (dr : Int64) (re : Int32) (np nh : Nat) (mo fa : Int32) (ln bo pl sz ch : Nat → Int32) (ua : Int32) (npA nhA : Nat) (moA faA : Int32) (lnA boA plA szA chA : Nat → Int32) (ub : Int32) (npB nhB : Nat) (moB faB : Int32) (lnB boB plB szB chB : Nat → Int32) (nn : Nat) (ns nw nt bd en db sh : Nat → Int32) (ro tm : Int32) (mn : Nat) (su rd : Int32) (lf bf hf sf cf : Nat → Int32) (rk ho wh va : Int32), INV dr re np nh mo fa ln bo pl sz ch ua npA nhA moA faA lnA boA plA szA chA ub npB nhB moB faB lnB boB plB szB chB nn ns nw nt bd en db sh → ∀ (H : Heap) (locs : List Loc), va_P D vwCl [(o, .inr (5, [.ref h, .ref ja, .ref jb, .ref t, .ref n, .ref g, .long dr, .int re, .int ro])), (h, .inr (2, [.ref h1, .ref h2, .ref h3, .ref h4, .ref h5, .int (nI np), .int (nI nh), .int mo, .int fa])), (h1, .inl (cI, 12, .inl ln)), (h2, .inl (cI, 12, .inl bo)), (h3, .inl (cI, 6, .inl pl)), (h4, .inl (cI, 6, .inl sz)), (h5, .inl (cI, 6, .inl ch)), (ja, .inr (3, [.ref ka, .int ua])), (ka, .inr (2, [.ref ka1, .ref ka2, .ref ka3, .ref ka4, .ref ka5, .int (nI npA), .int (nI nhA), .int moA, .int faA])), (ka1, .inl (cI, 12, .inl lnA)), (ka2, .inl (cI, 12, .inl boA)), (ka3, .inl (cI, 6, .inl plA)), (ka4, .inl (cI, 6, .inl szA)), (ka5, .inl (cI, 6, .inl chA)), (jb, .inr (3, [.ref kb, .int ub])), (kb, .inr (2, [.ref kb1, .ref kb2, .ref kb3, .ref kb4, .ref kb5, .int (nI npB), .int (nI nhB), .int moB, .int faB])), (kb1, .inl (cI, 12, .inl lnB)), (kb2, .inl (cI, 12, .inl boB)), (kb3, .inl (cI, 6, .inl plB)), (kb4, .inl (cI, 6, .inl szB)), (kb5, .inl (cI, 6, .inl chB)), (t, .inr (4, [.ref t1, .ref t2, .ref t3, .ref t4, .ref t5, .int (nI mn), .int su, .int rd])), (t1, .inl (cI, 18, .inl lf)), (t2, .inl (cI, 18, .inl bf)), (t3, .inl (cI, 18, .inl hf)), (t4, .inl (cI, 18, .inl sf)), (t5, .inl (cI, 18, .inl cf)), (n, .inr (1, [.ref n1, .ref n2, .ref n3, .int (nI nn)])), (n1, .inl (cI, 6, .inl ns)), (n2, .inl (cI, 6, .inl nw)), (n3, .inl (cI, 6, .inl nt)), (g, .inr (0, [.int rk, .int ho, .int wh, .int va])), (mm, .inr (6, [.int (nI np), .ref m1, .ref m2, .int (nI nh), .ref m3, .ref m4, .int (nI nn), .ref m5, .ref m6, .ref m7, .ref m8, .int re, .int ro, .ref m9, .int tm])), (m1, .inl (cI, 12, .inl ln)), (m2, .inl (cI, 12, .inl bo)), (m3, .inl (cI, 18, .inl bd)), (m4, .inl (cI, 2, .inl en)), (m5, .inl (cI, 6, .inl ns)), (m6, .inl (cI, 6, .inl nw)), (m7, .inl (cI, 6, .inl nt)), (m8, .inl (cZ, 61, .inl db)), (m9, .inl (cI, 100, .inl sh))] H → va_D (lA s) [(o, .inr (5, [.ref h, .ref ja, .ref jb, .ref t, .ref n, .ref g, .long dr, .int re, .int ro])), (h, .inr (2, [.ref h1, .ref h2, .ref h3, .ref h4, .ref h5, .int (nI np), .int (nI nh), .int mo, .int fa])), (h1, .inl (cI, 12, .inl ln)), (h2, .inl (cI, 12, .inl bo)), (h3, .inl (cI, 6, .inl pl)), (h4, .inl (cI, 6, .inl sz)), (h5, .inl (cI, 6, .inl ch)), (ja, .inr (3, [.ref ka, .int ua])), (ka, .inr (2, [.ref ka1, .ref ka2, .ref ka3, .ref ka4, .ref ka5, .int (nI npA), .int (nI nhA), .int moA, .int faA])), (ka1, .inl (cI, 12, .inl lnA)), (ka2, .inl (cI, 12, .inl boA)), (ka3, .inl (cI, 6, .inl plA)), (ka4, .inl (cI, 6, .inl szA)), (ka5, .inl (cI, 6, .inl chA)), (jb, .inr (3, [.ref kb, .int ub])), (kb, .inr (2, [.ref kb1, .ref kb2, .ref kb3, .ref kb4, .ref kb5, .int (nI npB), .int (nI nhB), .int moB, .int faB])), (kb1, .inl (cI, 12, .inl lnB)), (kb2, .inl (cI, 12, .inl boB)), (kb3, .inl (cI, 6, .inl plB)), (kb4, .inl (cI, 6, .inl szB)), (kb5, .inl (cI, 6, .inl chB)), (t, .inr (4, [.ref t1, .ref t2, .ref t3, .ref t4, .ref t5, .int (nI mn), .int su, .int rd])), (t1, .inl (cI, 18, .inl lf)), (t2, .inl (cI, 18, .inl bf)), (t3, .inl (cI, 18, .inl hf)), (t4, .inl (cI, 18, .inl sf)), (t5, .inl (cI, 18, .inl cf)), (n, .inr (1, [.ref n1, .ref n2, .ref n3, .int (nI nn)])), (n1, .inl (cI, 6, .inl ns)), (n2, .inl (cI, 6, .inl nw)), (n3, .inl (cI, 6, .inl nt)), (g, .inr (0, [.int rk, .int ho, .int wh, .int va])), (mm, .inr (6, [.int (nI np), .ref m1, .ref m2, .int (nI nh), .ref m3, .ref m4, .int (nI nn), .ref m5, .ref m6, .ref m7, .ref m8, .int re, .int ro, .ref m9, .int tm])), (m1, .inl (cI, 12, .inl ln)), (m2, .inl (cI, 12, .inl bo)), (m3, .inl (cI, 18, .inl bd)), (m4, .inl (cI, 2, .inl en)), (m5, .inl (cI, 6, .inl ns)), (m6, .inl (cI, 6, .inl nw)), (m7, .inl (cI, 6, .inl nt)), (m8, .inl (cZ, 61, .inl db)), (m9, .inl (cI, 100, .inl sh))] → va_S (lA s) s.heap H locs → ∀ (ls : Array Slot), lv_has ls 4 [(3, .int (nI i)), (2, .ref mm), (1, .ref o), (0, .ref b)] → W p l e room_1 s m #[Value.ref b] below meth c H locs 42 528 (lw_Z below #[Value.ref b] s) (F0 m 18 ls []) := by
  obtain ⟨hx, hb, hr, hml, hown, hts0, hX, hbl, hlocks, hgv⟩ := id C0
  have hbA : ¬ (lA s) b := Nat.not_le.mpr hbl
  intro N
  induction N with
  | zero => intro i h1 h2; exact absurd h2 (by omega)
  | succ N ih =>
    intro i hi hN dr re np nh mo fa ln bo pl sz ch ua npA nhA moA faA lnA boA plA szA chA ub npB nhB moB faB lnB boB plB szB chB nn ns nw nt bd en db sh ro tm mn su rd lf bf hf sf cf rk ho wh va hI H locs hP hD hS ls hl
    refine lv_iload_n hx hb dL_law_18 rfl (lv_at hl 0 rfl) ?_
    refine lv_aload_n hx hb dL_law_19 rfl (lv_at hl 3 rfl) ?_
    refine va_slen hx hb hX hbl hbA hS dL_law_20 ?_
    refine lv_iconst (v := 5) hx hb dL_law_21 (by decide) ?_
    refine lv_isub hx hb dL_law_22 ?_
    refine lv_icmp_gt (tgt := 798) hx hb dL_law_23 (by decide) (fun c0 => ?_) (fun c0 => ?_)
    · refine lv_iconst (v := 1) hx hb dL_law_798 (by decide) ?_
      refine va_forget (fun q hq => hS.2.2 q hq) ?_
      exact lw_ret hx hb hr hlocks dL_law_799
    · have hi5 : i + 5 ≤ L := law_more hL hi c0
      have K : LK p l e s m below meth c b D cI cZ o h h1 h2 h3 h4 h5 ja ka ka1 ka2 ka3 ka4 ka5 jb kb kb1 kb2 kb3 kb4 kb5 t t1 t2 t3 t4 t5 n n1 n2 n3 g mm m1 m2 m3 m4 m5 m6 m7 m8 m9 i := by
        intro dr re np nh mo fa ln bo pl sz ch ua npA nhA moA faA lnA boA plA szA chA ub npB nhB moB faB lnB boB plB szB chB nn ns nw nt bd en db sh ro tm mn su rd lf bf hf sf cf rk ho wh va hI H locs hP hD hS ls hl
        refine lv_iinc (v := nI (i + 5)) (lv' := [(3, .int (nI (i + 5))), (2, .ref mm), (1, .ref o), (0, .ref b)]) hx hb dL_law_792 hl (k := 0) rfl (iinc_5 i) (by decide) rfl (fun ls hl => ?_)
        refine lv_goto (tgt := 18) hx hb dL_law_795 (by decide) ?_
        exact ih (i + 5) hi5 (by omega) dr re np nh mo fa ln bo pl sz ch ua npA nhA moA faA lnA boA plA szA chA ub npB nhB moB faB lnB boB plB szB chB nn ns nw nt bd en db sh ro tm mn su rd lf bf hf sf cf rk ho wh va hI H locs hP hD hS ls hl
      refine lv_aload_n hx hb dL_law_26 rfl (lv_at hl 3 rfl) ?_
      refine lv_iload_n hx hb dL_law_27 rfl (lv_at hl 0 rfl) ?_
      refine sld_n (k := i) hx hb hX hbl hbA hS (by omega) (by omega) dL_law_28 ?_
      refine lv_bipush (v := 31) hx hb dL_law_29 (by decide) ?_
      refine lv_iand hx hb dL_law_31 ?_
      refine lv_topi (fun w_ ew_ => ?_)
      by_cases c1 : w_ = 0
      · refine lv_tableIn (off := 100) (tgt := 132) hx hb dL_law_32 (by rw [c1]; decide) (by rw [c1]; decide) (by rw [c1]; rfl) (by decide) ?_
        exact law_piece C0 hL hK hi5 dr re np nh mo fa ln bo pl sz ch ua npA nhA moA faA lnA boA plA szA chA ub npB nhB moB faB lnB boB plB szB chB nn ns nw nt bd en db sh ro tm mn su rd lf bf hf sf cf rk ho wh va hI K H locs hP hD hS ls hl
      by_cases c2 : w_ = 1
      · refine lv_tableIn (off := 133) (tgt := 165) hx hb dL_law_32 (by rw [c2]; decide) (by rw [c2]; decide) (by rw [c2]; rfl) (by decide) ?_
        exact law_cone C0 hL hK hi5 dr re np nh mo fa ln bo pl sz ch ua npA nhA moA faA lnA boA plA szA chA ub npB nhB moB faB lnB boB plB szB chB nn ns nw nt bd en db sh ro tm mn su rd lf bf hf sf cf rk ho wh va hI K H locs hP hD hS ls hl
      by_cases c3 : w_ = 2
      · refine lv_tableIn (off := 186) (tgt := 218) hx hb dL_law_32 (by rw [c3]; decide) (by rw [c3]; decide) (by rw [c3]; rfl) (by decide) ?_
        exact law_hole C0 hL hK hi5 dr re np nh mo fa ln bo pl sz ch ua npA nhA moA faA lnA boA plA szA chA ub npB nhB moB faB lnB boB plB szB chB nn ns nw nt bd en db sh ro tm mn su rd lf bf hf sf cf rk ho wh va hI K H locs hP hD hS ls hl
      by_cases c4 : w_ = 3
      · refine lv_tableIn (off := 229) (tgt := 261) hx hb dL_law_32 (by rw [c4]; decide) (by rw [c4]; decide) (by rw [c4]; rfl) (by decide) ?_
        exact law_set C0 hL hK hi5 dr re np nh mo fa ln bo pl sz ch ua npA nhA moA faA lnA boA plA szA chA ub npB nhB moB faB lnB boB plB szB chB nn ns nw nt bd en db sh ro tm mn su rd lf bf hf sf cf rk ho wh va hI K H locs hP hD hS ls hl
      by_cases c5 : w_ = 4
      · refine lv_tableIn (off := 272) (tgt := 304) hx hb dL_law_32 (by rw [c5]; decide) (by rw [c5]; decide) (by rw [c5]; rfl) (by decide) ?_
        exact law_end C0 hL hK hi5 dr re np nh mo fa ln bo pl sz ch ua npA nhA moA faA lnA boA plA szA chA ub npB nhB moB faB lnB boB plB szB chB nn ns nw nt bd en db sh ro tm mn su rd lf bf hf sf cf rk ho wh va hI K H locs hP hD hS ls hl
      by_cases c6 : w_ = 5
      · refine lv_tableIn (off := 305) (tgt := 337) hx hb dL_law_32 (by rw [c6]; decide) (by rw [c6]; decide) (by rw [c6]; rfl) (by decide) ?_
        exact law_clear C0 hL hK hi5 dr re np nh mo fa ln bo pl sz ch ua npA nhA moA faA lnA boA plA szA chA ub npB nhB moB faB lnB boB plB szB chB nn ns nw nt bd en db sh ro tm mn su rd lf bf hf sf cf rk ho wh va hI K H locs hP hD hS ls hl
      by_cases c7 : w_ = 6
      · refine lv_tableIn (off := 318) (tgt := 350) hx hb dL_law_32 (by rw [c7]; decide) (by rw [c7]; decide) (by rw [c7]; rfl) (by decide) ?_
        exact law_told C0 hL hK hi5 dr re np nh mo fa ln bo pl sz ch ua npA nhA moA faA lnA boA plA szA chA ub npB nhB moB faB lnB boB plB szB chB nn ns nw nt bd en db sh ro tm mn su rd lf bf hf sf cf rk ho wh va hI K H locs hP hD hS ls hl
      by_cases c8 : w_ = 7
      · refine lv_tableIn (off := 351) (tgt := 383) hx hb dL_law_32 (by rw [c8]; decide) (by rw [c8]; decide) (by rw [c8]; rfl) (by decide) ?_
        exact law_bored C0 hL hK hi5 dr re np nh mo fa ln bo pl sz ch ua npA nhA moA faA lnA boA plA szA chA ub npB nhB moB faB lnB boB plB szB chB nn ns nw nt bd en db sh ro tm mn su rd lf bf hf sf cf rk ho wh va hI K H locs hP hD hS ls hl
      by_cases c9 : w_ = 8
      · refine lv_tableIn (off := 384) (tgt := 416) hx hb dL_law_32 (by rw [c9]; decide) (by rw [c9]; decide) (by rw [c9]; rfl) (by decide) ?_
        exact law_count C0 hL hK hi5 dr re np nh mo fa ln bo pl sz ch ua npA nhA moA faA lnA boA plA szA chA ub npB nhB moB faB lnB boB plB szB chB nn ns nw nt bd en db sh ro tm mn su rd lf bf hf sf cf rk ho wh va hI K H locs hP hD hS ls hl
      by_cases c10 : w_ = 9
      · refine lv_tableIn (off := 407) (tgt := 439) hx hb dL_law_32 (by rw [c10]; decide) (by rw [c10]; decide) (by rw [c10]; rfl) (by decide) ?_
        exact law_sine C0 hL hK hi5 dr re np nh mo fa ln bo pl sz ch ua npA nhA moA faA lnA boA plA szA chA ub npB nhB moB faB lnB boB plB szB chB nn ns nw nt bd en db sh ro tm mn su rd lf bf hf sf cf rk ho wh va hI K H locs hP hD hS ls hl
      by_cases c11 : w_ = 10
      · refine lv_tableIn (off := 430) (tgt := 462) hx hb dL_law_32 (by rw [c11]; decide) (by rw [c11]; decide) (by rw [c11]; rfl) (by decide) ?_
        exact law_worth C0 hL hK hi5 dr re np nh mo fa ln bo pl sz ch ua npA nhA moA faA lnA boA plA szA chA ub npB nhB moB faB lnB boB plB szB chB nn ns nw nt bd en db sh ro tm mn su rd lf bf hf sf cf rk ho wh va hI K H locs hP hD hS ls hl
      by_cases c12 : w_ = 11
      · refine lv_tableIn (off := 464) (tgt := 496) hx hb dL_law_32 (by rw [c12]; decide) (by rw [c12]; decide) (by rw [c12]; rfl) (by decide) ?_
        exact law_tone C0 hL hK hi5 dr re np nh mo fa ln bo pl sz ch ua npA nhA moA faA lnA boA plA szA chA ub npB nhB moB faB lnB boB plB szB chB nn ns nw nt bd en db sh ro tm mn su rd lf bf hf sf cf rk ho wh va hI K H locs hP hD hS ls hl
      by_cases c13 : w_ = 12
      · refine lv_tableIn (off := 497) (tgt := 529) hx hb dL_law_32 (by rw [c13]; decide) (by rw [c13]; decide) (by rw [c13]; rfl) (by decide) ?_
        exact law_nearest C0 hL hK hi5 dr re np nh mo fa ln bo pl sz ch ua npA nhA moA faA lnA boA plA szA chA ub npB nhB moB faB lnB boB plB szB chB nn ns nw nt bd en db sh ro tm mn su rd lf bf hf sf cf rk ho wh va hI K H locs hP hD hS ls hl
      by_cases c14 : w_ = 13
      · refine lv_tableIn (off := 530) (tgt := 562) hx hb dL_law_32 (by rw [c14]; decide) (by rw [c14]; decide) (by rw [c14]; rfl) (by decide) ?_
        exact law_note C0 hL hK hi5 dr re np nh mo fa ln bo pl sz ch ua npA nhA moA faA lnA boA plA szA chA ub npB nhB moB faB lnB boB plB szB chB nn ns nw nt bd en db sh ro tm mn su rd lf bf hf sf cf rk ho wh va hI K H locs hP hD hS ls hl
      by_cases c15 : w_ = 14
      · refine lv_tableIn (off := 573) (tgt := 605) hx hb dL_law_32 (by rw [c15]; decide) (by rw [c15]; decide) (by rw [c15]; rfl) (by decide) ?_
        exact law_noted C0 hL hK hi5 dr re np nh mo fa ln bo pl sz ch ua npA nhA moA faA lnA boA plA szA chA ub npB nhB moB faB lnB boB plB szB chB nn ns nw nt bd en db sh ro tm mn su rd lf bf hf sf cf rk ho wh va hI K H locs hP hD hS ls hl
      by_cases c16 : w_ = 15
      · refine lv_tableIn (off := 606) (tgt := 638) hx hb dL_law_32 (by rw [c16]; decide) (by rw [c16]; decide) (by rw [c16]; rfl) (by decide) ?_
        exact law_drill C0 hL hK hi5 dr re np nh mo fa ln bo pl sz ch ua npA nhA moA faA lnA boA plA szA chA ub npB nhB moB faB lnB boB plB szB chB nn ns nw nt bd en db sh ro tm mn su rd lf bf hf sf cf rk ho wh va hI K H locs hP hD hS ls hl
      by_cases c17 : w_ = 16
      · refine lv_tableIn (off := 655) (tgt := 687) hx hb dL_law_32 (by rw [c17]; decide) (by rw [c17]; decide) (by rw [c17]; rfl) (by decide) ?_
        exact law_reach C0 hL hK hi5 dr re np nh mo fa ln bo pl sz ch ua npA nhA moA faA lnA boA plA szA chA ub npB nhB moB faB lnB boB plB szB chB nn ns nw nt bd en db sh ro tm mn su rd lf bf hf sf cf rk ho wh va hI K H locs hP hD hS ls hl
      by_cases c18 : w_ = 17
      · refine lv_tableIn (off := 678) (tgt := 710) hx hb dL_law_32 (by rw [c18]; decide) (by rw [c18]; decide) (by rw [c18]; rfl) (by decide) ?_
        exact law_round C0 hL hK hi5 dr re np nh mo fa ln bo pl sz ch ua npA nhA moA faA lnA boA plA szA chA ub npB nhB moB faB lnB boB plB szB chB nn ns nw nt bd en db sh ro tm mn su rd lf bf hf sf cf rk ho wh va hI K H locs hP hD hS ls hl
      by_cases c19 : w_ = 18
      · refine lv_tableIn (off := 691) (tgt := 723) hx hb dL_law_32 (by rw [c19]; decide) (by rw [c19]; decide) (by rw [c19]; rfl) (by decide) ?_
        exact law_keep C0 hL hK hi5 dr re np nh mo fa ln bo pl sz ch ua npA nhA moA faA lnA boA plA szA chA ub npB nhB moB faB lnB boB plB szB chB nn ns nw nt bd en db sh ro tm mn su rd lf bf hf sf cf rk ho wh va hI K H locs hP hD hS ls hl
      by_cases c20 : w_ = 19
      · refine lv_tableIn (off := 714) (tgt := 746) hx hb dL_law_32 (by rw [c20]; decide) (by rw [c20]; decide) (by rw [c20]; rfl) (by decide) ?_
        exact law_back C0 hL hK hi5 dr re np nh mo fa ln bo pl sz ch ua npA nhA moA faA lnA boA plA szA chA ub npB nhB moB faB lnB boB plB szB chB nn ns nw nt bd en db sh ro tm mn su rd lf bf hf sf cf rk ho wh va hI K H locs hP hD hS ls hl
      by_cases c21 : w_ = 20
      · refine lv_tableIn (off := 737) (tgt := 769) hx hb dL_law_32 (by rw [c21]; decide) (by rw [c21]; decide) (by rw [c21]; rfl) (by decide) ?_
        exact law_differs C0 hL hK hi5 dr re np nh mo fa ln bo pl sz ch ua npA nhA moA faA lnA boA plA szA chA ub npB nhB moB faB lnB boB plB szB chB nn ns nw nt bd en db sh ro tm mn su rd lf bf hf sf cf rk ho wh va hI K H locs hP hD hS ls hl
      refine lv_tableOut (tgt := 792) hx hb dL_law_32 (by have z0 := lv_neT (a := 0) c1 (by decide); have z1 := lv_neT (a := 1) c2 (by decide); have z2 := lv_neT (a := 2) c3 (by decide); have z3 := lv_neT (a := 3) c4 (by decide); have z4 := lv_neT (a := 4) c5 (by decide); have z5 := lv_neT (a := 5) c6 (by decide); have z6 := lv_neT (a := 6) c7 (by decide); have z7 := lv_neT (a := 7) c8 (by decide); have z8 := lv_neT (a := 8) c9 (by decide); have z9 := lv_neT (a := 9) c10 (by decide); have z10 := lv_neT (a := 10) c11 (by decide); have z11 := lv_neT (a := 11) c12 (by decide); have z12 := lv_neT (a := 12) c13 (by decide); have z13 := lv_neT (a := 13) c14 (by decide); have z14 := lv_neT (a := 14) c15 (by decide); have z15 := lv_neT (a := 15) c16 (by decide); have z16 := lv_neT (a := 16) c17 (by decide); have z17 := lv_neT (a := 17) c18 (by decide); have z18 := lv_neT (a := 18) c19 (by decide); have z19 := lv_neT (a := 19) c20 (by decide); have z20 := lv_neT (a := 20) c21 (by decide); omega) (by decide) ?_
      exact K dr re np nh mo fa ln bo pl sz ch ua npA nhA moA faA lnA boA plA szA chA ub npB nhB moB faB lnB boB plB szB chB nn ns nw nt bd en db sh ro tm mn su rd lf bf hf sf cf rk ho wh va hI H locs hP hD hS ls hl
