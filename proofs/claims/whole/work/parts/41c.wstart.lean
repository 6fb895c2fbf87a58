set_option maxRecDepth 100000 in
set_option maxHeartbeats 40000000 in
theorem w_start (dC : Nat → ClassId) (dI : Nat → Nat → Nat) (C : Nat → ClassId) (h0 : Nat) (adK adV : Nat → Nat) (p0 p1 p2 p3 p4 p5 p6 p7 p8 p9 p10 p11 p12 p13 p14 p15 p16 p17 p18 p19 p20 p21 p22 p23 p24 p25 p26 p27 p28 p29 p30 p31 p32 p33 p34 p35 p36 p37 p38 p39 p40 p41 p42 p43 p44 p45 p46 p47 p48 p49 p50 p51 p52 p53 p54 p55 p56 p57 p58 p59 p60 p61 p62 p63 p64 p65 p66 p67 p68 p69 p70 p71 p72 p73 p74 p75 p76 p77 p78 p79 p80 p81 p82 p83 p84 p85 p86 p87 p88 p89 p90 p91 p92 p93 : Nat) : ∀ (k : Nat) (q : Nat × va_E), (wW ((dC, dI), (fun i => [p0, p1, p2, p3, p4, p5, p6, p7, p8, p9, p10, p11, p12, p13, p14, p15, p16, p17, p18, p19, p20, p21, p22, p23, p24, p25, p26, p27, p28, p29, p30, p31, p32, p33, p34, p35, p36, p37, p38, p39, p40, p41, p42, p43, p44, p45, p46, p47, p48, p49, p50, p51, p52, p53, p54, p55, p56, p57, p58, p59, p60, p61, p62, p63, p64, p65, p66, p67, p68, p69, p70, p71, p72, p73, p74, p75, p76, p77, p78, p79, p80, p81, p82, p83, p84, p85, p86, p87, p88, p89, p90, p91, p92, p93].getD i 0), C, h0, adK, adV) st0)[k]? = some q → ([(p0, .inr (7, [.ref p1, .ref p9, .ref p15, .ref p16, .ref p22, .ref p23, .ref p33, .ref p38, .ref p41, .ref p45, .ref p58, .int (-1)])), (p1, .inr (3, [.int 0, .int 0, .int 0, .ref p2, .ref p3, .ref p4, .ref p5, .ref p6, .ref p7, .ref p8])), (p2, .inl (C 0, 3, .inl (fun _ => 0))), (p3, .inl (C 0, 18, .inl (fun _ => 0))), (p4, .inl (C 0, 6, .inl (fun _ => 0))), (p5, .inl (C 0, 6, .inl (fun _ => 0))), (p6, .inl (C 0, 6, .inl (fun _ => 0))), (p7, .inl (C 0, 6, .inl (fun _ => 0))), (p8, .inl (C 0, 36, .inl (fun _ => 0))), (p9, .inr (6, [.ref p10, .ref p11, .ref p12, .ref p13, .ref p14, .int 0, .int 0])), (p10, .inl (C 0, 6, .inl (upd (upd (upd (upd (upd (upd (fun _ => 0) 0 (-1)) 1 (-1)) 2 (-1)) 3 (-1)) 4 (-1)) 5 (-1)))), (p11, .inl (C 0, 6, .inl (upd (upd (upd (upd (upd (upd (fun _ => 0) 0 (-1)) 1 (-1)) 2 (-1)) 3 (-1)) 4 (-1)) 5 (-1)))), (p12, .inl (C 0, 6, .inl (fun _ => 0))), (p13, .inl (C 0, 6, .inl (fun _ => 0))), (p14, .inl (C 0, 6, .inl (fun _ => 0))), (p15, .inr (1, [.ref p1, .ref p9])), (p16, .inr (6, [.ref p17, .ref p18, .ref p19, .ref p20, .ref p21, .int 0, .int 0])), (p17, .inl (C 0, 6, .inl (upd (upd (upd (upd (upd (upd (fun _ => 0) 0 (-1)) 1 (-1)) 2 (-1)) 3 (-1)) 4 (-1)) 5 (-1)))), (p18, .inl (C 0, 6, .inl (upd (upd (upd (upd (upd (upd (fun _ => 0) 0 (-1)) 1 (-1)) 2 (-1)) 3 (-1)) 4 (-1)) 5 (-1)))), (p19, .inl (C 0, 6, .inl (fun _ => 0))), (p20, .inl (C 0, 6, .inl (fun _ => 0))), (p21, .inl (C 0, 6, .inl (fun _ => 0))), (p22, .inr (1, [.ref p1, .ref p16])), (p23, .inr (5, [.ref p24, .int 0, .int 0, .int 0, .ref p32, .int 0, .int 0, .int 0])), (p24, .inr (3, [.int 0, .int 0, .int 0, .ref p25, .ref p26, .ref p27, .ref p28, .ref p29, .ref p30, .ref p31])), (p25, .inl (C 0, 3, .inl (fun _ => 0))), (p26, .inl (C 0, 18, .inl (fun _ => 0))), (p27, .inl (C 0, 6, .inl (fun _ => 0))), (p28, .inl (C 0, 6, .inl (fun _ => 0))), (p29, .inl (C 0, 6, .inl (fun _ => 0))), (p30, .inl (C 0, 6, .inl (fun _ => 0))), (p31, .inl (C 0, 36, .inl (fun _ => 0))), (p32, .inl (C 1, 500, .inl (fun _ => 0))), (p33, .inr (4, [.ref p1, .ref p9, .ref p34, .ref p35, .ref p36, .ref p37, .int 0, .int 0, .int 0, .int 0, .int 0])), (p34, .inl (C 0, 6, .inl (fun _ => 0))), (p35, .inl (C 0, 6, .inl (fun _ => 0))), (p36, .inl (C 0, 384, .inl (fun _ => 0))), (p37, .inl (C 0, 6, .inl (fun _ => 0))), (p38, .inr (2, [.ref p1, .ref p33, .ref p39, .ref p40, .int 0, .int 0, .int 0])), (p39, .inl (C 0, 3, .inl (fun _ => 0))), (p40, .inl (C 0, 3, .inl (fun _ => 0))), (p41, .inr (0, [.ref p42, .ref p43, .ref p44, .int 0])), (p42, .inl (C 0, 20, .inl (fun _ => 0))), (p43, .inl (C 0, 20, .inl (fun _ => 0))), (p44, .inl (C 0, 20, .inl (fun _ => 0))), (p45, .inl (C 3, 2, .inr (.inr (.inr (.inr (va_up (va_up (fun _ => none) 0 (some p46)) 1 (some p52))))))), (p46, .inr (6, [.ref p47, .ref p48, .ref p49, .ref p50, .ref p51, .int 0, .int 0])), (p47, .inl (C 0, 6, .inl (upd (upd (upd (upd (upd (upd (fun _ => 0) 0 (-1)) 1 (-1)) 2 (-1)) 3 (-1)) 4 (-1)) 5 (-1)))), (p48, .inl (C 0, 6, .inl (upd (upd (upd (upd (upd (upd (fun _ => 0) 0 (-1)) 1 (-1)) 2 (-1)) 3 (-1)) 4 (-1)) 5 (-1)))), (p49, .inl (C 0, 6, .inl (fun _ => 0))), (p50, .inl (C 0, 6, .inl (fun _ => 0))), (p51, .inl (C 0, 6, .inl (fun _ => 0))), (p52, .inr (6, [.ref p53, .ref p54, .ref p55, .ref p56, .ref p57, .int 0, .int 0])), (p53, .inl (C 0, 6, .inl (upd (upd (upd (upd (upd (upd (fun _ => 0) 0 (-1)) 1 (-1)) 2 (-1)) 3 (-1)) 4 (-1)) 5 (-1)))), (p54, .inl (C 0, 6, .inl (upd (upd (upd (upd (upd (upd (fun _ => 0) 0 (-1)) 1 (-1)) 2 (-1)) 3 (-1)) 4 (-1)) 5 (-1)))), (p55, .inl (C 0, 6, .inl (fun _ => 0))), (p56, .inl (C 0, 6, .inl (fun _ => 0))), (p57, .inl (C 0, 6, .inl (fun _ => 0))), (p58, .inl (C 2, 2, .inl (fun _ => 0))), (p59, .inr (8, [.int 0, .ref p60, .ref p61, .int 0, .ref p62, .ref p63, .ref p64, .ref p65, .int 0, .ref p66, .int 0, .ref p67, .ref p68, .ref p69, .ref p70, .ref p71, .int 0, .ref p72, .int 0, .int (-1), .int 0, .long 0, .int 0, .int 0, .int 0, .int 0, .ref p73, .ref p74, .int 0, .ref p75, .ref p76, .ref p77, .ref p78, .int 0, .ref p79, .ref p80, .ref p81, .ref p82, .ref p83, .ref p84, .ref p85, .ref p86, .int 0, .ref p87, .ref p88, .int 0, .ref p89, .ref p90, .ref p91, .ref p92, .ref p93])), (p60, .inl (C 0, 3, .inl (fun _ => 0))), (p61, .inl (C 0, 18, .inl (fun _ => 0))), (p62, .inl (C 0, 6, .inl (fun _ => 0))), (p63, .inl (C 0, 6, .inl (fun _ => 0))), (p64, .inl (C 0, 6, .inl (fun _ => 0))), (p65, .inl (C 0, 6, .inl (fun _ => 0))), (p66, .inl (C 0, 36, .inl (fun _ => 0))), (p67, .inl (C 0, 6, .inl (upd (upd (upd (upd (upd (upd (fun _ => 0) 0 0) 1 0) 2 0) 3 0) 4 0) 5 0))), (p68, .inl (C 0, 6, .inl (upd (upd (upd (upd (upd (upd (fun _ => 0) 0 0) 1 0) 2 0) 3 0) 4 0) 5 0))), (p69, .inl (C 0, 6, .inl (upd (upd (upd (upd (upd (upd (fun _ => 0) 0 (-1)) 1 (-1)) 2 (-1)) 3 (-1)) 4 (-1)) 5 (-1)))), (p70, .inl (C 0, 6, .inl (upd (upd (upd (upd (upd (upd (fun _ => 0) 0 (-1)) 1 (-1)) 2 (-1)) 3 (-1)) 4 (-1)) 5 (-1)))), (p71, .inl (C 0, 6, .inl (upd (upd (upd (upd (upd (upd (fun _ => 0) 0 0) 1 0) 2 0) 3 0) 4 0) 5 0))), (p72, .inl (C 0, 500, .inl (fun _ => 0))), (p73, .inl (C 0, 3, .inl (fun _ => 0))), (p74, .inl (C 0, 18, .inl (fun _ => 0))), (p75, .inl (C 0, 6, .inl (fun _ => 0))), (p76, .inl (C 0, 6, .inl (fun _ => 0))), (p77, .inl (C 0, 6, .inl (fun _ => 0))), (p78, .inl (C 0, 6, .inl (fun _ => 0))), (p79, .inl (C 0, 36, .inl (fun _ => 0))), (p80, .inl (C 0, 6, .inl (fun _ => 0))), (p81, .inl (C 0, 6, .inl (fun _ => 0))), (p82, .inl (C 0, 6, .inl (fun _ => 0))), (p83, .inl (C 0, 6, .inl (fun _ => 0))), (p84, .inl (C 0, 192, .inl (fun _ => 0))), (p85, .inl (C 0, 6, .inl (fun _ => 0))), (p86, .inl (C 0, 6, .inl (fun _ => 0))), (p87, .inl (C 0, 6, .inl (fun _ => 0))), (p88, .inl (C 0, 6, .inl (fun _ => 0))), (p89, .inl (C 0, 20, .inl (fun _ => 0))), (p90, .inl (C 0, 20, .inl (fun _ => 0))), (p91, .inl (C 0, 20, .inl (fun _ => 0))), (p92, .inl (C 0, 120, .inl (fun _ => 0))), (p93, .inl (C 2, 2, .inl (fun _ => 0)))] : va_W)[k]? = some q := by
  intro k q h
  obtain ⟨c, hc, rfl⟩ := wW_at h
  have hk : k < 94 := (List.getElem?_eq_some_iff.mp hc).1
  clear h
  rcases Nat.lt_or_ge k 47 with hl0_94 | hl0_94
  · rcases Nat.lt_or_ge k 23 with hl0_47 | hl0_47
    · rcases Nat.lt_or_ge k 11 with hl0_23 | hl0_23
      · rcases Nat.lt_or_ge k 5 with hl0_11 | hl0_11
        · rcases Nat.lt_or_ge k 2 with hl0_5 | hl0_5
          · rcases Nat.lt_or_ge k 1 with hl0_2 | hl0_2
            · obtain rfl : k = 0 := by omega
              rw [sh_0] at hc
              cases hc
              rw [wc_obj]
              rfl
            · obtain rfl : k = 1 := by omega
              rw [sh_1] at hc
              cases hc
              rw [wc_obj]
              rfl
          · rcases Nat.lt_or_ge k 3 with hl2_5 | hl2_5
            · obtain rfl : k = 2 := by omega
              rw [sh_2] at hc
              cases hc
              rfl
            · rcases Nat.lt_or_ge k 4 with hl3_5 | hl3_5
              · obtain rfl : k = 3 := by omega
                rw [sh_3] at hc
                cases hc
                rfl
              · obtain rfl : k = 4 := by omega
                rw [sh_4] at hc
                cases hc
                rfl
        · rcases Nat.lt_or_ge k 8 with hl5_11 | hl5_11
          · rcases Nat.lt_or_ge k 6 with hl5_8 | hl5_8
            · obtain rfl : k = 5 := by omega
              rw [sh_5] at hc
              cases hc
              rfl
            · rcases Nat.lt_or_ge k 7 with hl6_8 | hl6_8
              · obtain rfl : k = 6 := by omega
                rw [sh_6] at hc
                cases hc
                rfl
              · obtain rfl : k = 7 := by omega
                rw [sh_7] at hc
                cases hc
                rfl
          · rcases Nat.lt_or_ge k 9 with hl8_11 | hl8_11
            · obtain rfl : k = 8 := by omega
              rw [sh_8] at hc
              cases hc
              rfl
            · rcases Nat.lt_or_ge k 10 with hl9_11 | hl9_11
              · obtain rfl : k = 9 := by omega
                rw [sh_9] at hc
                cases hc
                rw [wc_obj]
                rfl
              · obtain rfl : k = 10 := by omega
                rw [sh_10] at hc
                cases hc
                rfl
      · rcases Nat.lt_or_ge k 17 with hl11_23 | hl11_23
        · rcases Nat.lt_or_ge k 14 with hl11_17 | hl11_17
          · rcases Nat.lt_or_ge k 12 with hl11_14 | hl11_14
            · obtain rfl : k = 11 := by omega
              rw [sh_11] at hc
              cases hc
              rfl
            · rcases Nat.lt_or_ge k 13 with hl12_14 | hl12_14
              · obtain rfl : k = 12 := by omega
                rw [sh_12] at hc
                cases hc
                rfl
              · obtain rfl : k = 13 := by omega
                rw [sh_13] at hc
                cases hc
                rfl
          · rcases Nat.lt_or_ge k 15 with hl14_17 | hl14_17
            · obtain rfl : k = 14 := by omega
              rw [sh_14] at hc
              cases hc
              rfl
            · rcases Nat.lt_or_ge k 16 with hl15_17 | hl15_17
              · obtain rfl : k = 15 := by omega
                rw [sh_15] at hc
                cases hc
                rw [wc_obj]
                rfl
              · obtain rfl : k = 16 := by omega
                rw [sh_16] at hc
                cases hc
                rw [wc_obj]
                rfl
        · rcases Nat.lt_or_ge k 20 with hl17_23 | hl17_23
          · rcases Nat.lt_or_ge k 18 with hl17_20 | hl17_20
            · obtain rfl : k = 17 := by omega
              rw [sh_17] at hc
              cases hc
              rfl
            · rcases Nat.lt_or_ge k 19 with hl18_20 | hl18_20
              · obtain rfl : k = 18 := by omega
                rw [sh_18] at hc
                cases hc
                rfl
              · obtain rfl : k = 19 := by omega
                rw [sh_19] at hc
                cases hc
                rfl
          · rcases Nat.lt_or_ge k 21 with hl20_23 | hl20_23
            · obtain rfl : k = 20 := by omega
              rw [sh_20] at hc
              cases hc
              rfl
            · rcases Nat.lt_or_ge k 22 with hl21_23 | hl21_23
              · obtain rfl : k = 21 := by omega
                rw [sh_21] at hc
                cases hc
                rfl
              · obtain rfl : k = 22 := by omega
                rw [sh_22] at hc
                cases hc
                rw [wc_obj]
                rfl
    · rcases Nat.lt_or_ge k 35 with hl23_47 | hl23_47
      · rcases Nat.lt_or_ge k 29 with hl23_35 | hl23_35
        · rcases Nat.lt_or_ge k 26 with hl23_29 | hl23_29
          · rcases Nat.lt_or_ge k 24 with hl23_26 | hl23_26
            · obtain rfl : k = 23 := by omega
              rw [sh_23] at hc
              cases hc
              rw [wc_obj]
              rfl
            · rcases Nat.lt_or_ge k 25 with hl24_26 | hl24_26
              · obtain rfl : k = 24 := by omega
                rw [sh_24] at hc
                cases hc
                rw [wc_obj]
                rfl
              · obtain rfl : k = 25 := by omega
                rw [sh_25] at hc
                cases hc
                rfl
          · rcases Nat.lt_or_ge k 27 with hl26_29 | hl26_29
            · obtain rfl : k = 26 := by omega
              rw [sh_26] at hc
              cases hc
              rfl
            · rcases Nat.lt_or_ge k 28 with hl27_29 | hl27_29
              · obtain rfl : k = 27 := by omega
                rw [sh_27] at hc
                cases hc
                rfl
              · obtain rfl : k = 28 := by omega
                rw [sh_28] at hc
                cases hc
                rfl
        · rcases Nat.lt_or_ge k 32 with hl29_35 | hl29_35
          · rcases Nat.lt_or_ge k 30 with hl29_32 | hl29_32
            · obtain rfl : k = 29 := by omega
              rw [sh_29] at hc
              cases hc
              rfl
            · rcases Nat.lt_or_ge k 31 with hl30_32 | hl30_32
              · obtain rfl : k = 30 := by omega
                rw [sh_30] at hc
                cases hc
                rfl
              · obtain rfl : k = 31 := by omega
                rw [sh_31] at hc
                cases hc
                rfl
          · rcases Nat.lt_or_ge k 33 with hl32_35 | hl32_35
            · obtain rfl : k = 32 := by omega
              rw [sh_32] at hc
              cases hc
              rfl
            · rcases Nat.lt_or_ge k 34 with hl33_35 | hl33_35
              · obtain rfl : k = 33 := by omega
                rw [sh_33] at hc
                cases hc
                rw [wc_obj]
                rfl
              · obtain rfl : k = 34 := by omega
                rw [sh_34] at hc
                cases hc
                rfl
      · rcases Nat.lt_or_ge k 41 with hl35_47 | hl35_47
        · rcases Nat.lt_or_ge k 38 with hl35_41 | hl35_41
          · rcases Nat.lt_or_ge k 36 with hl35_38 | hl35_38
            · obtain rfl : k = 35 := by omega
              rw [sh_35] at hc
              cases hc
              rfl
            · rcases Nat.lt_or_ge k 37 with hl36_38 | hl36_38
              · obtain rfl : k = 36 := by omega
                rw [sh_36] at hc
                cases hc
                rfl
              · obtain rfl : k = 37 := by omega
                rw [sh_37] at hc
                cases hc
                rfl
          · rcases Nat.lt_or_ge k 39 with hl38_41 | hl38_41
            · obtain rfl : k = 38 := by omega
              rw [sh_38] at hc
              cases hc
              rw [wc_obj]
              rfl
            · rcases Nat.lt_or_ge k 40 with hl39_41 | hl39_41
              · obtain rfl : k = 39 := by omega
                rw [sh_39] at hc
                cases hc
                rfl
              · obtain rfl : k = 40 := by omega
                rw [sh_40] at hc
                cases hc
                rfl
        · rcases Nat.lt_or_ge k 44 with hl41_47 | hl41_47
          · rcases Nat.lt_or_ge k 42 with hl41_44 | hl41_44
            · obtain rfl : k = 41 := by omega
              rw [sh_41] at hc
              cases hc
              rw [wc_obj]
              rfl
            · rcases Nat.lt_or_ge k 43 with hl42_44 | hl42_44
              · obtain rfl : k = 42 := by omega
                rw [sh_42] at hc
                cases hc
                rfl
              · obtain rfl : k = 43 := by omega
                rw [sh_43] at hc
                cases hc
                rfl
          · rcases Nat.lt_or_ge k 45 with hl44_47 | hl44_47
            · obtain rfl : k = 44 := by omega
              rw [sh_44] at hc
              cases hc
              rfl
            · rcases Nat.lt_or_ge k 46 with hl45_47 | hl45_47
              · obtain rfl : k = 45 := by omega
                rw [sh_45] at hc
                cases hc
                exact congrArg (fun f => (some (p45, (Sum.inl (C 3, 2, Sum.inr (Sum.inr (Sum.inr (Sum.inr f)))) : va_E)) : Option (Nat × va_E))) (img_f p46 p52)
              · obtain rfl : k = 46 := by omega
                rw [sh_46] at hc
                cases hc
                rw [wc_obj]
                rfl
  · rcases Nat.lt_or_ge k 70 with hl47_94 | hl47_94
    · rcases Nat.lt_or_ge k 58 with hl47_70 | hl47_70
      · rcases Nat.lt_or_ge k 52 with hl47_58 | hl47_58
        · rcases Nat.lt_or_ge k 49 with hl47_52 | hl47_52
          · rcases Nat.lt_or_ge k 48 with hl47_49 | hl47_49
            · obtain rfl : k = 47 := by omega
              rw [sh_47] at hc
              cases hc
              rfl
            · obtain rfl : k = 48 := by omega
              rw [sh_48] at hc
              cases hc
              rfl
          · rcases Nat.lt_or_ge k 50 with hl49_52 | hl49_52
            · obtain rfl : k = 49 := by omega
              rw [sh_49] at hc
              cases hc
              rfl
            · rcases Nat.lt_or_ge k 51 with hl50_52 | hl50_52
              · obtain rfl : k = 50 := by omega
                rw [sh_50] at hc
                cases hc
                rfl
              · obtain rfl : k = 51 := by omega
                rw [sh_51] at hc
                cases hc
                rfl
        · rcases Nat.lt_or_ge k 55 with hl52_58 | hl52_58
          · rcases Nat.lt_or_ge k 53 with hl52_55 | hl52_55
            · obtain rfl : k = 52 := by omega
              rw [sh_52] at hc
              cases hc
              rw [wc_obj]
              rfl
            · rcases Nat.lt_or_ge k 54 with hl53_55 | hl53_55
              · obtain rfl : k = 53 := by omega
                rw [sh_53] at hc
                cases hc
                rfl
              · obtain rfl : k = 54 := by omega
                rw [sh_54] at hc
                cases hc
                rfl
          · rcases Nat.lt_or_ge k 56 with hl55_58 | hl55_58
            · obtain rfl : k = 55 := by omega
              rw [sh_55] at hc
              cases hc
              rfl
            · rcases Nat.lt_or_ge k 57 with hl56_58 | hl56_58
              · obtain rfl : k = 56 := by omega
                rw [sh_56] at hc
                cases hc
                rfl
              · obtain rfl : k = 57 := by omega
                rw [sh_57] at hc
                cases hc
                rfl
      · rcases Nat.lt_or_ge k 64 with hl58_70 | hl58_70
        · rcases Nat.lt_or_ge k 61 with hl58_64 | hl58_64
          · rcases Nat.lt_or_ge k 59 with hl58_61 | hl58_61
            · obtain rfl : k = 58 := by omega
              rw [sh_58] at hc
              cases hc
              rfl
            · rcases Nat.lt_or_ge k 60 with hl59_61 | hl59_61
              · obtain rfl : k = 59 := by omega
                rw [sh_59] at hc
                cases hc
                rw [wc_obj]
                rfl
              · obtain rfl : k = 60 := by omega
                rw [sh_60] at hc
                cases hc
                rfl
          · rcases Nat.lt_or_ge k 62 with hl61_64 | hl61_64
            · obtain rfl : k = 61 := by omega
              rw [sh_61] at hc
              cases hc
              rfl
            · rcases Nat.lt_or_ge k 63 with hl62_64 | hl62_64
              · obtain rfl : k = 62 := by omega
                rw [sh_62] at hc
                cases hc
                rfl
              · obtain rfl : k = 63 := by omega
                rw [sh_63] at hc
                cases hc
                rfl
        · rcases Nat.lt_or_ge k 67 with hl64_70 | hl64_70
          · rcases Nat.lt_or_ge k 65 with hl64_67 | hl64_67
            · obtain rfl : k = 64 := by omega
              rw [sh_64] at hc
              cases hc
              rfl
            · rcases Nat.lt_or_ge k 66 with hl65_67 | hl65_67
              · obtain rfl : k = 65 := by omega
                rw [sh_65] at hc
                cases hc
                rfl
              · obtain rfl : k = 66 := by omega
                rw [sh_66] at hc
                cases hc
                rfl
          · rcases Nat.lt_or_ge k 68 with hl67_70 | hl67_70
            · obtain rfl : k = 67 := by omega
              rw [sh_67] at hc
              cases hc
              rfl
            · rcases Nat.lt_or_ge k 69 with hl68_70 | hl68_70
              · obtain rfl : k = 68 := by omega
                rw [sh_68] at hc
                cases hc
                rfl
              · obtain rfl : k = 69 := by omega
                rw [sh_69] at hc
                cases hc
                rfl
    · rcases Nat.lt_or_ge k 82 with hl70_94 | hl70_94
      · rcases Nat.lt_or_ge k 76 with hl70_82 | hl70_82
        · rcases Nat.lt_or_ge k 73 with hl70_76 | hl70_76
          · rcases Nat.lt_or_ge k 71 with hl70_73 | hl70_73
            · obtain rfl : k = 70 := by omega
              rw [sh_70] at hc
              cases hc
              rfl
            · rcases Nat.lt_or_ge k 72 with hl71_73 | hl71_73
              · obtain rfl : k = 71 := by omega
                rw [sh_71] at hc
                cases hc
                rfl
              · obtain rfl : k = 72 := by omega
                rw [sh_72] at hc
                cases hc
                rfl
          · rcases Nat.lt_or_ge k 74 with hl73_76 | hl73_76
            · obtain rfl : k = 73 := by omega
              rw [sh_73] at hc
              cases hc
              rfl
            · rcases Nat.lt_or_ge k 75 with hl74_76 | hl74_76
              · obtain rfl : k = 74 := by omega
                rw [sh_74] at hc
                cases hc
                rfl
              · obtain rfl : k = 75 := by omega
                rw [sh_75] at hc
                cases hc
                rfl
        · rcases Nat.lt_or_ge k 79 with hl76_82 | hl76_82
          · rcases Nat.lt_or_ge k 77 with hl76_79 | hl76_79
            · obtain rfl : k = 76 := by omega
              rw [sh_76] at hc
              cases hc
              rfl
            · rcases Nat.lt_or_ge k 78 with hl77_79 | hl77_79
              · obtain rfl : k = 77 := by omega
                rw [sh_77] at hc
                cases hc
                rfl
              · obtain rfl : k = 78 := by omega
                rw [sh_78] at hc
                cases hc
                rfl
          · rcases Nat.lt_or_ge k 80 with hl79_82 | hl79_82
            · obtain rfl : k = 79 := by omega
              rw [sh_79] at hc
              cases hc
              rfl
            · rcases Nat.lt_or_ge k 81 with hl80_82 | hl80_82
              · obtain rfl : k = 80 := by omega
                rw [sh_80] at hc
                cases hc
                rfl
              · obtain rfl : k = 81 := by omega
                rw [sh_81] at hc
                cases hc
                rfl
      · rcases Nat.lt_or_ge k 88 with hl82_94 | hl82_94
        · rcases Nat.lt_or_ge k 85 with hl82_88 | hl82_88
          · rcases Nat.lt_or_ge k 83 with hl82_85 | hl82_85
            · obtain rfl : k = 82 := by omega
              rw [sh_82] at hc
              cases hc
              rfl
            · rcases Nat.lt_or_ge k 84 with hl83_85 | hl83_85
              · obtain rfl : k = 83 := by omega
                rw [sh_83] at hc
                cases hc
                rfl
              · obtain rfl : k = 84 := by omega
                rw [sh_84] at hc
                cases hc
                rfl
          · rcases Nat.lt_or_ge k 86 with hl85_88 | hl85_88
            · obtain rfl : k = 85 := by omega
              rw [sh_85] at hc
              cases hc
              rfl
            · rcases Nat.lt_or_ge k 87 with hl86_88 | hl86_88
              · obtain rfl : k = 86 := by omega
                rw [sh_86] at hc
                cases hc
                rfl
              · obtain rfl : k = 87 := by omega
                rw [sh_87] at hc
                cases hc
                rfl
        · rcases Nat.lt_or_ge k 91 with hl88_94 | hl88_94
          · rcases Nat.lt_or_ge k 89 with hl88_91 | hl88_91
            · obtain rfl : k = 88 := by omega
              rw [sh_88] at hc
              cases hc
              rfl
            · rcases Nat.lt_or_ge k 90 with hl89_91 | hl89_91
              · obtain rfl : k = 89 := by omega
                rw [sh_89] at hc
                cases hc
                rfl
              · obtain rfl : k = 90 := by omega
                rw [sh_90] at hc
                cases hc
                rfl
          · rcases Nat.lt_or_ge k 92 with hl91_94 | hl91_94
            · obtain rfl : k = 91 := by omega
              rw [sh_91] at hc
              cases hc
              rfl
            · rcases Nat.lt_or_ge k 93 with hl92_94 | hl92_94
              · obtain rfl : k = 92 := by omega
                rw [sh_92] at hc
                cases hc
                rfl
              · obtain rfl : k = 93 := by omega
                rw [sh_93] at hc
                cases hc
                rfl
