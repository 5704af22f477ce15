/-! HandMarketLaw.law([I)Z -/
def j_L_law_1355 (L : Nat) (xs : Nat → Int32) (k18 : Int32 → k_Mem → Option (Int32 × k_Mem)) (x3 : Int32) (σ : k_Mem) : Option (Int32 × k_Mem) :=
  k18 (x3 + 5) σ
set_option maxRecDepth 100000 in
theorem gj_L_law_1355 (E : k_EV)   (k18 : Int32 → k_Mem → Option (Int32 × k_Mem)) (hk18 : ∀ (x3 : Int32)  (σ : k_Mem), k_GO m_L_law E k_vi 18 [(0, k_rb E), (1, k_rf E 0), (2, k_rf E 67), (3, .int x3)] [] σ (k18 x3 σ)) (x3 : Int32)  (σ : k_Mem) : k_GO m_L_law E k_vi 1355 [(0, k_rb E), (1, k_rf E 0), (2, k_rf E 67), (3, .int x3)] [] σ (j_L_law_1355 E.2.2.2.2.2.2.1 E.2.2.2.2.2.2.2 k18 x3 σ) := by
  unfold j_L_law_1355
  refine r_iinc 5 (by decide) 3 rfl [(3, .int _), (0, k_rb E), (1, k_rf E 0), (2, k_rf E 67)] rfl (by decide) 1358 rfl dL_law_1355 ?_
  refine r_goto 18 (by decide) dL_law_1358 ?_
  exact r_sub [1, 2, 3, 0] rfl (hk18 _  _)
def j_L_law_515 (L : Nat) (xs : Nat → Int32) (k18 : Int32 → k_Mem → Option (Int32 × k_Mem)) (x3 : Int32) (xs0 : Int32) (xs2 : Int32) (xs3 : Int32) (σ : k_Mem) : Option (Int32 × k_Mem) :=
  k_bd (f_X7_run  xs2 xs3 σ) (fun r46 σ46 =>
    if xs0 = r46 then (
      j_L_law_1355 L xs k18 x3 σ46
    ) else (
      some (0, σ46)
    )
  )
set_option maxRecDepth 100000 in
theorem gj_L_law_515 (E : k_EV)   (k18 : Int32 → k_Mem → Option (Int32 × k_Mem)) (hk18 : ∀ (x3 : Int32)  (σ : k_Mem), k_GO m_L_law E k_vi 18 [(0, k_rb E), (1, k_rf E 0), (2, k_rf E 67), (3, .int x3)] [] σ (k18 x3 σ)) (x3 : Int32) (xs0 : Int32) (xs2 : Int32) (xs3 : Int32)  (σ : k_Mem) : k_GO m_L_law E k_vi 515 [(0, k_rb E), (1, k_rf E 0), (2, k_rf E 67), (3, .int x3)] [.int xs3, .int xs2, k_rf E 67, .int xs0] σ (j_L_law_515 E.2.2.2.2.2.2.1 E.2.2.2.2.2.2.2 k18 x3 xs0 xs2 xs3 σ) := by
  unfold j_L_law_515
  refine r_calli (c_X7_run E   _ _ _) rfl sh_67 rfl ml_L_61 cw_X7_run vw_X7_run (by decide) (Nat.le_of_ble_eq_true rfl) 518 rfl dL_law_515 (fun r46 σ46 => ?_)
  refine r_icmp_eq 1355 521 rfl (by decide) dL_law_518 (fun c47 => ?_) (fun c47 => ?_)
  · exact r_sub [0, 1, 2, 3] rfl (gj_L_law_1355 E   _ hk18 _  _)
  · refine r_iconst 0 (by decide) 522 rfl dL_law_521 ?_
    exact r_zret rfl (Or.inl rfl) dL_law_522
def j_L_law_493 (L : Nat) (xs : Nat → Int32) (k18 : Int32 → k_Mem → Option (Int32 × k_Mem)) (x3 : Int32) (xs1 : Int32) (xs2 : Int32) (σ : k_Mem) : Option (Int32 × k_Mem) :=
  k_bd (f_X6_run  xs1 xs2 σ) (fun r44 σ44 =>
    if k_in (x3 + 1) L then (
      if k_in (x3 + 2) L then (
        if (xs (k_n (x3 + 2))) = 0 then (
          j_L_law_515 L xs k18 x3 r44 (xs (k_n (x3 + 1))) 0 σ44
        ) else (
          j_L_law_515 L xs k18 x3 r44 (xs (k_n (x3 + 1))) 1 σ44
        )
      ) else none
    ) else none
  )
set_option maxRecDepth 100000 in
theorem gj_L_law_493 (E : k_EV)   (k18 : Int32 → k_Mem → Option (Int32 × k_Mem)) (hk18 : ∀ (x3 : Int32)  (σ : k_Mem), k_GO m_L_law E k_vi 18 [(0, k_rb E), (1, k_rf E 0), (2, k_rf E 67), (3, .int x3)] [] σ (k18 x3 σ)) (x3 : Int32) (xs1 : Int32) (xs2 : Int32)  (σ : k_Mem) : k_GO m_L_law E k_vi 493 [(0, k_rb E), (1, k_rf E 0), (2, k_rf E 67), (3, .int x3)] [.int xs2, .int xs1, k_rf E 0] σ (j_L_law_493 E.2.2.2.2.2.2.1 E.2.2.2.2.2.2.2 k18 x3 xs1 xs2 σ) := by
  unfold j_L_law_493
  refine r_calli (c_X6_run E   _ _ _) rfl sh_0 rfl ml_L_57 cw_X6_run vw_X6_run (by decide) (Nat.le_of_ble_eq_true rfl) 496 rfl dL_law_493 (fun r44 σ44 => ?_)
  refine r_aload_n 2 rfl rfl 497 rfl dL_law_496 ?_
  refine r_aload_n 0 rfl rfl 498 rfl dL_law_497 ?_
  refine r_iload_n 3 rfl rfl 499 rfl dL_law_498 ?_
  refine r_iconst 1 (by decide) 500 rfl dL_law_499 ?_
  refine r_iadd 501 rfl dL_law_500 ?_
  refine r_sld rfl 502 rfl dL_law_501 ?_
  refine r_aload_n 0 rfl rfl 503 rfl dL_law_502 ?_
  refine r_iload_n 3 rfl rfl 504 rfl dL_law_503 ?_
  refine r_iconst 2 (by decide) 505 rfl dL_law_504 ?_
  refine r_iadd 506 rfl dL_law_505 ?_
  refine r_sld rfl 507 rfl dL_law_506 ?_
  refine r_if_eq 514 510 rfl (by decide) dL_law_507 (fun c45 => ?_) (fun c45 => ?_)
  · refine r_iconst 0 (by decide) 515 rfl dL_law_514 ?_
    exact r_sub [0, 1, 2, 3] rfl (gj_L_law_515 E   _ hk18 _ _ _ _  _)
  · refine r_iconst 1 (by decide) 511 rfl dL_law_510 ?_
    refine r_goto 515 (by decide) dL_law_511 ?_
    exact r_sub [0, 1, 2, 3] rfl (gj_L_law_515 E   _ hk18 _ _ _ _  _)
def j_L_law_574 (L : Nat) (xs : Nat → Int32) (k18 : Int32 → k_Mem → Option (Int32 × k_Mem)) (x3 : Int32) (xs0 : Int32) (xs2 : Int32) (xs3 : Int32) (xs4 : Int32) (σ : k_Mem) : Option (Int32 × k_Mem) :=
  k_bd (f_X7_fold  xs2 xs3 xs4 σ) (fun r52 σ52 =>
    if xs0 = r52 then (
      j_L_law_1355 L xs k18 x3 σ52
    ) else (
      some (0, σ52)
    )
  )
set_option maxRecDepth 100000 in
theorem gj_L_law_574 (E : k_EV)   (k18 : Int32 → k_Mem → Option (Int32 × k_Mem)) (hk18 : ∀ (x3 : Int32)  (σ : k_Mem), k_GO m_L_law E k_vi 18 [(0, k_rb E), (1, k_rf E 0), (2, k_rf E 67), (3, .int x3)] [] σ (k18 x3 σ)) (x3 : Int32) (xs0 : Int32) (xs2 : Int32) (xs3 : Int32) (xs4 : Int32)  (σ : k_Mem) : k_GO m_L_law E k_vi 574 [(0, k_rb E), (1, k_rf E 0), (2, k_rf E 67), (3, .int x3)] [.int xs4, .int xs3, .int xs2, k_rf E 67, .int xs0] σ (j_L_law_574 E.2.2.2.2.2.2.1 E.2.2.2.2.2.2.2 k18 x3 xs0 xs2 xs3 xs4 σ) := by
  unfold j_L_law_574
  refine r_calli (c_X7_fold E   _ _ _ _) rfl sh_67 rfl ml_L_66 cw_X7_fold vw_X7_fold (by decide) (Nat.le_of_ble_eq_true rfl) 577 rfl dL_law_574 (fun r52 σ52 => ?_)
  refine r_icmp_eq 1355 580 rfl (by decide) dL_law_577 (fun c53 => ?_) (fun c53 => ?_)
  · exact r_sub [0, 1, 2, 3] rfl (gj_L_law_1355 E   _ hk18 _  _)
  · refine r_iconst 0 (by decide) 581 rfl dL_law_580 ?_
    exact r_zret rfl (Or.inl rfl) dL_law_581
def j_L_law_547 (L : Nat) (xs : Nat → Int32) (k18 : Int32 → k_Mem → Option (Int32 × k_Mem)) (x3 : Int32) (xs1 : Int32) (xs2 : Int32) (xs3 : Int32) (σ : k_Mem) : Option (Int32 × k_Mem) :=
  k_bd (f_X6_fold  xs1 xs2 xs3 σ) (fun r50 σ50 =>
    if k_in (x3 + 1) L then (
      if k_in (x3 + 2) L then (
        if k_in (x3 + 3) L then (
          if (xs (k_n (x3 + 3))) = 0 then (
            j_L_law_574 L xs k18 x3 r50 (xs (k_n (x3 + 1))) (xs (k_n (x3 + 2))) 0 σ50
          ) else (
            j_L_law_574 L xs k18 x3 r50 (xs (k_n (x3 + 1))) (xs (k_n (x3 + 2))) 1 σ50
          )
        ) else none
      ) else none
    ) else none
  )
set_option maxRecDepth 100000 in
theorem gj_L_law_547 (E : k_EV)   (k18 : Int32 → k_Mem → Option (Int32 × k_Mem)) (hk18 : ∀ (x3 : Int32)  (σ : k_Mem), k_GO m_L_law E k_vi 18 [(0, k_rb E), (1, k_rf E 0), (2, k_rf E 67), (3, .int x3)] [] σ (k18 x3 σ)) (x3 : Int32) (xs1 : Int32) (xs2 : Int32) (xs3 : Int32)  (σ : k_Mem) : k_GO m_L_law E k_vi 547 [(0, k_rb E), (1, k_rf E 0), (2, k_rf E 67), (3, .int x3)] [.int xs3, .int xs2, .int xs1, k_rf E 0] σ (j_L_law_547 E.2.2.2.2.2.2.1 E.2.2.2.2.2.2.2 k18 x3 xs1 xs2 xs3 σ) := by
  unfold j_L_law_547
  refine r_calli (c_X6_fold E   _ _ _ _) rfl sh_0 rfl ml_L_62 cw_X6_fold vw_X6_fold (by decide) (Nat.le_of_ble_eq_true rfl) 550 rfl dL_law_547 (fun r50 σ50 => ?_)
  refine r_aload_n 2 rfl rfl 551 rfl dL_law_550 ?_
  refine r_aload_n 0 rfl rfl 552 rfl dL_law_551 ?_
  refine r_iload_n 3 rfl rfl 553 rfl dL_law_552 ?_
  refine r_iconst 1 (by decide) 554 rfl dL_law_553 ?_
  refine r_iadd 555 rfl dL_law_554 ?_
  refine r_sld rfl 556 rfl dL_law_555 ?_
  refine r_aload_n 0 rfl rfl 557 rfl dL_law_556 ?_
  refine r_iload_n 3 rfl rfl 558 rfl dL_law_557 ?_
  refine r_iconst 2 (by decide) 559 rfl dL_law_558 ?_
  refine r_iadd 560 rfl dL_law_559 ?_
  refine r_sld rfl 561 rfl dL_law_560 ?_
  refine r_aload_n 0 rfl rfl 562 rfl dL_law_561 ?_
  refine r_iload_n 3 rfl rfl 563 rfl dL_law_562 ?_
  refine r_iconst 3 (by decide) 564 rfl dL_law_563 ?_
  refine r_iadd 565 rfl dL_law_564 ?_
  refine r_sld rfl 566 rfl dL_law_565 ?_
  refine r_if_eq 573 569 rfl (by decide) dL_law_566 (fun c51 => ?_) (fun c51 => ?_)
  · refine r_iconst 0 (by decide) 574 rfl dL_law_573 ?_
    exact r_sub [0, 1, 2, 3] rfl (gj_L_law_574 E   _ hk18 _ _ _ _ _  _)
  · refine r_iconst 1 (by decide) 570 rfl dL_law_569 ?_
    refine r_goto 574 (by decide) dL_law_570 ?_
    exact r_sub [0, 1, 2, 3] rfl (gj_L_law_574 E   _ hk18 _ _ _ _ _  _)
def l_L_law_18 (L : Nat) (xs : Nat → Int32)  : Nat → Int32 → k_Mem → Option (Int32 × k_Mem)
  | 0, _, _ => none
  | n + 1, x3, σ =>
    if ((nI L) - 5) < x3 then (
      some (1, σ)
    ) else (
      if k_in x3 L then (
        if ((xs (k_n x3)) &&& 63) = 0 then (
          if k_in (x3 + 1) L then (
            k_bd (f_X6_feed  (xs (k_n (x3 + 1))) σ) (fun r3 σ3 =>
              if k_in (x3 + 1) L then (
                k_bd (f_X7_feed  (xs (k_n (x3 + 1))) σ3) (fun r4 σ4 =>
                  if r3 = r4 then (
                    j_L_law_1355 L xs (fun x3 σ => l_L_law_18 L xs  n x3 σ) x3 σ4
                  ) else (
                    some (0, σ4)
                  )
                )
              ) else none
            )
          ) else none
        ) else (
        if ((xs (k_n x3)) &&& 63) = 1 then (
          if k_in (x3 + 1) L then (
            k_bd (f_X6_end  (xs (k_n (x3 + 1))) σ) (fun r7 σ7 =>
              if k_in (x3 + 1) L then (
                k_bd (f_X7_end  (xs (k_n (x3 + 1))) σ7) (fun r8 σ8 =>
                  if r7 = r8 then (
                    j_L_law_1355 L xs (fun x3 σ => l_L_law_18 L xs  n x3 σ) x3 σ8
                  ) else (
                    some (0, σ8)
                  )
                )
              ) else none
            )
          ) else none
        ) else (
        if ((xs (k_n x3)) &&& 63) = 2 then (
          k_bd (f_X6_text   σ) (fun r11 σ11 =>
            k_bd (f_X7_text   σ11) (fun r12 σ12 =>
              if r11 = r12 then (
                j_L_law_1355 L xs (fun x3 σ => l_L_law_18 L xs  n x3 σ) x3 σ12
              ) else (
                some (0, σ12)
              )
            )
          )
        ) else (
        if ((xs (k_n x3)) &&& 63) = 3 then (
          k_bd (f_X6_fault   σ) (fun r15 σ15 =>
            k_bd (f_X7_fault   σ15) (fun r16 σ16 =>
              if r15 = r16 then (
                j_L_law_1355 L xs (fun x3 σ => l_L_law_18 L xs  n x3 σ) x3 σ16
              ) else (
                some (0, σ16)
              )
            )
          )
        ) else (
        if ((xs (k_n x3)) &&& 63) = 4 then (
          if k_in (x3 + 1) L then (
            k_bd (f_X6_rule  (xs (k_n (x3 + 1))) σ) (fun r19 σ19 =>
              if k_in (x3 + 1) L then (
                k_bd (f_X7_rule  (xs (k_n (x3 + 1))) σ19) (fun r20 σ20 =>
                  if r19 = r20 then (
                    j_L_law_1355 L xs (fun x3 σ => l_L_law_18 L xs  n x3 σ) x3 σ20
                  ) else (
                    some (0, σ20)
                  )
                )
              ) else none
            )
          ) else none
        ) else (
        if ((xs (k_n x3)) &&& 63) = 5 then (
          if k_in (x3 + 1) L then (
            if k_in (x3 + 2) L then (
              k_bd (f_X6_hand  (xs (k_n (x3 + 1))) (xs (k_n (x3 + 2))) σ) (fun r23 σ23 =>
                if k_in (x3 + 1) L then (
                  if k_in (x3 + 2) L then (
                    k_bd (f_X7_hand  (xs (k_n (x3 + 1))) (xs (k_n (x3 + 2))) σ23) (fun r24 σ24 =>
                      if r23 = r24 then (
                        j_L_law_1355 L xs (fun x3 σ => l_L_law_18 L xs  n x3 σ) x3 σ24
                      ) else (
                        some (0, σ24)
                      )
                    )
                  ) else none
                ) else none
              )
            ) else none
          ) else none
        ) else (
        if ((xs (k_n x3)) &&& 63) = 6 then (
          if k_in (x3 + 1) L then (
            if k_in (x3 + 2) L then (
              k_bd (f_X6_page  (xs (k_n (x3 + 1))) (xs (k_n (x3 + 2))) σ) (fun r27 σ27 =>
                if k_in (x3 + 1) L then (
                  if k_in (x3 + 2) L then (
                    k_bd (f_X7_page  (xs (k_n (x3 + 1))) (xs (k_n (x3 + 2))) σ27) (fun r28 σ28 =>
                      if r27 = r28 then (
                        j_L_law_1355 L xs (fun x3 σ => l_L_law_18 L xs  n x3 σ) x3 σ28
                      ) else (
                        some (0, σ28)
                      )
                    )
                  ) else none
                ) else none
              )
            ) else none
          ) else none
        ) else (
        if ((xs (k_n x3)) &&& 63) = 7 then (
          if k_in (x3 + 1) L then (
            if k_in (x3 + 2) L then (
              k_bd (f_X6_likes  (xs (k_n (x3 + 1))) (xs (k_n (x3 + 2))) σ) (fun r31 σ31 =>
                if k_in (x3 + 1) L then (
                  if k_in (x3 + 2) L then (
                    k_bd (f_X7_likes  (xs (k_n (x3 + 1))) (xs (k_n (x3 + 2))) σ31) (fun r32 σ32 =>
                      if r31 = r32 then (
                        j_L_law_1355 L xs (fun x3 σ => l_L_law_18 L xs  n x3 σ) x3 σ32
                      ) else (
                        some (0, σ32)
                      )
                    )
                  ) else none
                ) else none
              )
            ) else none
          ) else none
        ) else (
        if ((xs (k_n x3)) &&& 63) = 8 then (
          if k_in (x3 + 1) L then (
            if k_in (x3 + 2) L then (
              k_bd (f_X6_rather  (xs (k_n (x3 + 1))) (xs (k_n (x3 + 2))) σ) (fun r35 σ35 =>
                if k_in (x3 + 1) L then (
                  if k_in (x3 + 2) L then (
                    k_bd (f_X7_rather  (xs (k_n (x3 + 1))) (xs (k_n (x3 + 2))) σ35) (fun r36 σ36 =>
                      if r35 = r36 then (
                        j_L_law_1355 L xs (fun x3 σ => l_L_law_18 L xs  n x3 σ) x3 σ36
                      ) else (
                        some (0, σ36)
                      )
                    )
                  ) else none
                ) else none
              )
            ) else none
          ) else none
        ) else (
        if ((xs (k_n x3)) &&& 63) = 9 then (
          if k_in (x3 + 1) L then (
            if k_in (x3 + 2) L then (
              if k_in (x3 + 3) L then (
                k_bd (f_X6_alter  (xs (k_n (x3 + 1))) (xs (k_n (x3 + 2))) (xs (k_n (x3 + 3))) σ) (fun r39 σ39 =>
                  if k_in (x3 + 1) L then (
                    if k_in (x3 + 2) L then (
                      if k_in (x3 + 3) L then (
                        k_bd (f_X7_alter  (xs (k_n (x3 + 1))) (xs (k_n (x3 + 2))) (xs (k_n (x3 + 3))) σ39) (fun r40 σ40 =>
                          if r39 = r40 then (
                            j_L_law_1355 L xs (fun x3 σ => l_L_law_18 L xs  n x3 σ) x3 σ40
                          ) else (
                            some (0, σ40)
                          )
                        )
                      ) else none
                    ) else none
                  ) else none
                )
              ) else none
            ) else none
          ) else none
        ) else (
        if ((xs (k_n x3)) &&& 63) = 10 then (
          if k_in (x3 + 1) L then (
            if k_in (x3 + 2) L then (
              if (xs (k_n (x3 + 2))) = 0 then (
                j_L_law_493 L xs (fun x3 σ => l_L_law_18 L xs  n x3 σ) x3 (xs (k_n (x3 + 1))) 0 σ
              ) else (
                j_L_law_493 L xs (fun x3 σ => l_L_law_18 L xs  n x3 σ) x3 (xs (k_n (x3 + 1))) 1 σ
              )
            ) else none
          ) else none
        ) else (
        if ((xs (k_n x3)) &&& 63) = 11 then (
          if k_in (x3 + 1) L then (
            if k_in (x3 + 2) L then (
              if k_in (x3 + 3) L then (
                if (xs (k_n (x3 + 3))) = 0 then (
                  j_L_law_547 L xs (fun x3 σ => l_L_law_18 L xs  n x3 σ) x3 (xs (k_n (x3 + 1))) (xs (k_n (x3 + 2))) 0 σ
                ) else (
                  j_L_law_547 L xs (fun x3 σ => l_L_law_18 L xs  n x3 σ) x3 (xs (k_n (x3 + 1))) (xs (k_n (x3 + 2))) 1 σ
                )
              ) else none
            ) else none
          ) else none
        ) else (
        if ((xs (k_n x3)) &&& 63) = 12 then (
          if k_in (x3 + 1) L then (
            if k_in (x3 + 2) L then (
              k_bd (f_X6_wed  (xs (k_n (x3 + 1))) (xs (k_n (x3 + 2))) σ) (fun r55 σ55 =>
                if k_in (x3 + 1) L then (
                  if k_in (x3 + 2) L then (
                    k_bd (f_X7_wed  (xs (k_n (x3 + 1))) (xs (k_n (x3 + 2))) σ55) (fun r56 σ56 =>
                      if r55 = r56 then (
                        j_L_law_1355 L xs (fun x3 σ => l_L_law_18 L xs  n x3 σ) x3 σ56
                      ) else (
                        some (0, σ56)
                      )
                    )
                  ) else none
                ) else none
              )
            ) else none
          ) else none
        ) else (
        if ((xs (k_n x3)) &&& 63) = 13 then (
          if k_in (x3 + 1) L then (
            k_bd (f_X6_part  (xs (k_n (x3 + 1))) σ) (fun r59 σ59 =>
              if k_in (x3 + 1) L then (
                k_bd (f_X7_part  (xs (k_n (x3 + 1))) σ59) (fun r60 σ60 =>
                  if r59 = r60 then (
                    j_L_law_1355 L xs (fun x3 σ => l_L_law_18 L xs  n x3 σ) x3 σ60
                  ) else (
                    some (0, σ60)
                  )
                )
              ) else none
            )
          ) else none
        ) else (
        if ((xs (k_n x3)) &&& 63) = 14 then (
          if k_in (x3 + 1) L then (
            if k_in (x3 + 2) L then (
              k_bd (f_X6_asked  (xs (k_n (x3 + 1))) (xs (k_n (x3 + 2))) σ) (fun r63 σ63 =>
                if k_in (x3 + 1) L then (
                  if k_in (x3 + 2) L then (
                    k_bd (f_X7_asked  (xs (k_n (x3 + 1))) (xs (k_n (x3 + 2))) σ63) (fun r64 σ64 =>
                      if r63 = r64 then (
                        j_L_law_1355 L xs (fun x3 σ => l_L_law_18 L xs  n x3 σ) x3 σ64
                      ) else (
                        some (0, σ64)
                      )
                    )
                  ) else none
                ) else none
              )
            ) else none
          ) else none
        ) else (
        if ((xs (k_n x3)) &&& 63) = 15 then (
          if k_in (x3 + 1) L then (
            k_bd (f_X6_sum  (xs (k_n (x3 + 1))) σ) (fun r67 σ67 =>
              if k_in (x3 + 1) L then (
                k_bd (f_X7_sum  (xs (k_n (x3 + 1))) σ67) (fun r68 σ68 =>
                  if r67 = r68 then (
                    j_L_law_1355 L xs (fun x3 σ => l_L_law_18 L xs  n x3 σ) x3 σ68
                  ) else (
                    some (0, σ68)
                  )
                )
              ) else none
            )
          ) else none
        ) else (
        if ((xs (k_n x3)) &&& 63) = 16 then (
          if k_in (x3 + 1) L then (
            k_bd (f_X6_hold  (xs (k_n (x3 + 1))) σ) (fun r71 σ71 =>
              if k_in (x3 + 1) L then (
                k_bd (f_X7_hold  (xs (k_n (x3 + 1))) σ71) (fun r72 σ72 =>
                  if r71 = r72 then (
                    j_L_law_1355 L xs (fun x3 σ => l_L_law_18 L xs  n x3 σ) x3 σ72
                  ) else (
                    some (0, σ72)
                  )
                )
              ) else none
            )
          ) else none
        ) else (
        if ((xs (k_n x3)) &&& 63) = 17 then (
          if k_in (x3 + 1) L then (
            k_bd (f_X6_most  (xs (k_n (x3 + 1))) σ) (fun r75 σ75 =>
              if k_in (x3 + 1) L then (
                k_bd (f_X7_most  (xs (k_n (x3 + 1))) σ75) (fun r76 σ76 =>
                  if r75 = r76 then (
                    j_L_law_1355 L xs (fun x3 σ => l_L_law_18 L xs  n x3 σ) x3 σ76
                  ) else (
                    some (0, σ76)
                  )
                )
              ) else none
            )
          ) else none
        ) else (
        if ((xs (k_n x3)) &&& 63) = 18 then (
          if k_in (x3 + 1) L then (
            k_bd (f_X6_quarrel  (xs (k_n (x3 + 1))) σ) (fun r79 σ79 =>
              if k_in (x3 + 1) L then (
                k_bd (f_X7_quarrel  (xs (k_n (x3 + 1))) σ79) (fun r80 σ80 =>
                  if r79 = r80 then (
                    j_L_law_1355 L xs (fun x3 σ => l_L_law_18 L xs  n x3 σ) x3 σ80
                  ) else (
                    some (0, σ80)
                  )
                )
              ) else none
            )
          ) else none
        ) else (
        if ((xs (k_n x3)) &&& 63) = 19 then (
          k_bd (f_X6_alone   σ) (fun r83 σ83 =>
            k_bd (f_X7_alone   σ83) (fun r84 σ84 =>
              if r83 = r84 then (
                j_L_law_1355 L xs (fun x3 σ => l_L_law_18 L xs  n x3 σ) x3 σ84
              ) else (
                some (0, σ84)
              )
            )
          )
        ) else (
        if ((xs (k_n x3)) &&& 63) = 20 then (
          if k_in (x3 + 1) L then (
            k_bd (f_X6_years  (xs (k_n (x3 + 1))) σ) (fun r87 σ87 =>
              if k_in (x3 + 1) L then (
                k_bd (f_X7_years  (xs (k_n (x3 + 1))) σ87) (fun r88 σ88 =>
                  if r87 = r88 then (
                    j_L_law_1355 L xs (fun x3 σ => l_L_law_18 L xs  n x3 σ) x3 σ88
                  ) else (
                    some (0, σ88)
                  )
                )
              ) else none
            )
          ) else none
        ) else (
        if ((xs (k_n x3)) &&& 63) = 21 then (
          k_bd (f_X6_alike   σ) (fun r91 σ91 =>
            k_bd (f_X7_alike   σ91) (fun r92 σ92 =>
              if r91 = r92 then (
                j_L_law_1355 L xs (fun x3 σ => l_L_law_18 L xs  n x3 σ) x3 σ92
              ) else (
                some (0, σ92)
              )
            )
          )
        ) else (
        if ((xs (k_n x3)) &&& 63) = 22 then (
          if k_in (x3 + 1) L then (
            k_bd (f_X6_near  (xs (k_n (x3 + 1))) σ) (fun r95 σ95 =>
              if k_in (x3 + 1) L then (
                k_bd (f_X7_near  (xs (k_n (x3 + 1))) σ95) (fun r96 σ96 =>
                  if r95 = r96 then (
                    j_L_law_1355 L xs (fun x3 σ => l_L_law_18 L xs  n x3 σ) x3 σ96
                  ) else (
                    some (0, σ96)
                  )
                )
              ) else none
            )
          ) else none
        ) else (
        if ((xs (k_n x3)) &&& 63) = 23 then (
          if k_in (x3 + 1) L then (
            if k_in (x3 + 2) L then (
              k_bd (f_X6_forge  (xs (k_n (x3 + 1))) (xs (k_n (x3 + 2))) σ) (fun r99 σ99 =>
                if k_in (x3 + 1) L then (
                  if k_in (x3 + 2) L then (
                    k_bd (f_X7_forge  (xs (k_n (x3 + 1))) (xs (k_n (x3 + 2))) σ99) (fun r100 σ100 =>
                      if r99 = r100 then (
                        j_L_law_1355 L xs (fun x3 σ => l_L_law_18 L xs  n x3 σ) x3 σ100
                      ) else (
                        some (0, σ100)
                      )
                    )
                  ) else none
                ) else none
              )
            ) else none
          ) else none
        ) else (
        if ((xs (k_n x3)) &&& 63) = 24 then (
          if k_in (x3 + 1) L then (
            k_bd (f_X6_swap  (xs (k_n (x3 + 1))) σ) (fun r103 σ103 =>
              if k_in (x3 + 1) L then (
                k_bd (f_X7_swap  (xs (k_n (x3 + 1))) σ103) (fun r104 σ104 =>
                  if r103 = r104 then (
                    j_L_law_1355 L xs (fun x3 σ => l_L_law_18 L xs  n x3 σ) x3 σ104
                  ) else (
                    some (0, σ104)
                  )
                )
              ) else none
            )
          ) else none
        ) else (
        if ((xs (k_n x3)) &&& 63) = 25 then (
          if k_in (x3 + 1) L then (
            if k_in (x3 + 2) L then (
              k_bd (f_X6_mean  (xs (k_n (x3 + 1))) (xs (k_n (x3 + 2))) σ) (fun r107 σ107 =>
                if k_in (x3 + 1) L then (
                  if k_in (x3 + 2) L then (
                    k_bd (f_X7_mean  (xs (k_n (x3 + 1))) (xs (k_n (x3 + 2))) σ107) (fun r108 σ108 =>
                      if (lg_cmp r107 r108) = 0 then (
                        j_L_law_1355 L xs (fun x3 σ => l_L_law_18 L xs  n x3 σ) x3 σ108
                      ) else (
                        some (0, σ108)
                      )
                    )
                  ) else none
                ) else none
              )
            ) else none
          ) else none
        ) else (
        if ((xs (k_n x3)) &&& 63) = 26 then (
          if k_in (x3 + 1) L then (
            if k_in (x3 + 2) L then (
              if k_in (x3 + 3) L then (
                k_bd (f_X6_luck  (xs (k_n (x3 + 1))) (xs (k_n (x3 + 2))) (xs (k_n (x3 + 3))) σ) (fun r111 σ111 =>
                  if k_in (x3 + 1) L then (
                    if k_in (x3 + 2) L then (
                      if k_in (x3 + 3) L then (
                        k_bd (f_X7_luck  (xs (k_n (x3 + 1))) (xs (k_n (x3 + 2))) (xs (k_n (x3 + 3))) σ111) (fun r112 σ112 =>
                          if (lg_cmp r111 r112) = 0 then (
                            j_L_law_1355 L xs (fun x3 σ => l_L_law_18 L xs  n x3 σ) x3 σ112
                          ) else (
                            some (0, σ112)
                          )
                        )
                      ) else none
                    ) else none
                  ) else none
                )
              ) else none
            ) else none
          ) else none
        ) else (
        if ((xs (k_n x3)) &&& 63) = 27 then (
          if k_in (x3 + 1) L then (
            if k_in (x3 + 2) L then (
              if k_in (x3 + 3) L then (
                k_bd (f_X6_see  (xs (k_n (x3 + 1))) (xs (k_n (x3 + 2))) (xs (k_n (x3 + 3))) σ) (fun r115 σ115 =>
                  if k_in (x3 + 1) L then (
                    if k_in (x3 + 2) L then (
                      if k_in (x3 + 3) L then (
                        k_bd (f_X7_see  (xs (k_n (x3 + 1))) (xs (k_n (x3 + 2))) (xs (k_n (x3 + 3))) σ115) (fun r116 σ116 =>
                          if r115 = r116 then (
                            j_L_law_1355 L xs (fun x3 σ => l_L_law_18 L xs  n x3 σ) x3 σ116
                          ) else (
                            some (0, σ116)
                          )
                        )
                      ) else none
                    ) else none
                  ) else none
                )
              ) else none
            ) else none
          ) else none
        ) else (
        if ((xs (k_n x3)) &&& 63) = 28 then (
          if k_in (x3 + 1) L then (
            k_bd (f_X6_forget  (xs (k_n (x3 + 1))) σ) (fun r119 σ119 =>
              if k_in (x3 + 1) L then (
                k_bd (f_X7_forget  (xs (k_n (x3 + 1))) σ119) (fun r120 σ120 =>
                  if r119 = r120 then (
                    j_L_law_1355 L xs (fun x3 σ => l_L_law_18 L xs  n x3 σ) x3 σ120
                  ) else (
                    some (0, σ120)
                  )
                )
              ) else none
            )
          ) else none
        ) else (
        if ((xs (k_n x3)) &&& 63) = 29 then (
          if k_in (x3 + 1) L then (
            k_bd (f_X6_fits  (xs (k_n (x3 + 1))) σ) (fun r123 σ123 =>
              if k_in (x3 + 1) L then (
                k_bd (f_X7_fits  (xs (k_n (x3 + 1))) σ123) (fun r124 σ124 =>
                  if r123 = r124 then (
                    j_L_law_1355 L xs (fun x3 σ => l_L_law_18 L xs  n x3 σ) x3 σ124
                  ) else (
                    some (0, σ124)
                  )
                )
              ) else none
            )
          ) else none
        ) else (
        if ((xs (k_n x3)) &&& 63) = 30 then (
          if k_in (x3 + 1) L then (
            if k_in (x3 + 2) L then (
              k_bd (f_X6_look  (xs (k_n (x3 + 1))) (xs (k_n (x3 + 2))) σ) (fun r127 σ127 =>
                if k_in (x3 + 1) L then (
                  if k_in (x3 + 2) L then (
                    k_bd (f_X7_look  (xs (k_n (x3 + 1))) (xs (k_n (x3 + 2))) σ127) (fun r128 σ128 =>
                      if r127 = r128 then (
                        j_L_law_1355 L xs (fun x3 σ => l_L_law_18 L xs  n x3 σ) x3 σ128
                      ) else (
                        some (0, σ128)
                      )
                    )
                  ) else none
                ) else none
              )
            ) else none
          ) else none
        ) else (
        if ((xs (k_n x3)) &&& 63) = 31 then (
          if k_in (x3 + 1) L then (
            if k_in (x3 + 2) L then (
              if k_in (x3 + 3) L then (
                k_bd (f_X6_drift  (xs (k_n (x3 + 1))) (xs (k_n (x3 + 2))) (xs (k_n (x3 + 3))) σ) (fun r131 σ131 =>
                  if k_in (x3 + 1) L then (
                    if k_in (x3 + 2) L then (
                      if k_in (x3 + 3) L then (
                        k_bd (f_X7_drift  (xs (k_n (x3 + 1))) (xs (k_n (x3 + 2))) (xs (k_n (x3 + 3))) σ131) (fun r132 σ132 =>
                          if r131 = r132 then (
                            j_L_law_1355 L xs (fun x3 σ => l_L_law_18 L xs  n x3 σ) x3 σ132
                          ) else (
                            some (0, σ132)
                          )
                        )
                      ) else none
                    ) else none
                  ) else none
                )
              ) else none
            ) else none
          ) else none
        ) else (
        if ((xs (k_n x3)) &&& 63) = 32 then (
          if k_in (x3 + 1) L then (
            k_bd (f_X6_keep  (xs (k_n (x3 + 1))) σ) (fun r135 σ135 =>
              if k_in (x3 + 1) L then (
                k_bd (f_X7_keep  (xs (k_n (x3 + 1))) σ135) (fun r136 σ136 =>
                  if r135 = r136 then (
                    j_L_law_1355 L xs (fun x3 σ => l_L_law_18 L xs  n x3 σ) x3 σ136
                  ) else (
                    some (0, σ136)
                  )
                )
              ) else none
            )
          ) else none
        ) else (
        if ((xs (k_n x3)) &&& 63) = 33 then (
          if k_in (x3 + 1) L then (
            k_bd (f_X6_back  (xs (k_n (x3 + 1))) σ) (fun r139 σ139 =>
              if k_in (x3 + 1) L then (
                k_bd (f_X7_back  (xs (k_n (x3 + 1))) σ139) (fun r140 σ140 =>
                  if r139 = r140 then (
                    j_L_law_1355 L xs (fun x3 σ => l_L_law_18 L xs  n x3 σ) x3 σ140
                  ) else (
                    some (0, σ140)
                  )
                )
              ) else none
            )
          ) else none
        ) else (
        if ((xs (k_n x3)) &&& 63) = 34 then (
          if k_in (x3 + 1) L then (
            if k_in (x3 + 2) L then (
              if k_in (x3 + 3) L then (
                k_bd (f_X6_sheet  (xs (k_n (x3 + 1))) (xs (k_n (x3 + 2))) (xs (k_n (x3 + 3))) σ) (fun r143 σ143 =>
                  if k_in (x3 + 1) L then (
                    if k_in (x3 + 2) L then (
                      if k_in (x3 + 3) L then (
                        k_bd (f_X7_sheet  (xs (k_n (x3 + 1))) (xs (k_n (x3 + 2))) (xs (k_n (x3 + 3))) σ143) (fun r144 σ144 =>
                          if r143 = r144 then (
                            j_L_law_1355 L xs (fun x3 σ => l_L_law_18 L xs  n x3 σ) x3 σ144
                          ) else (
                            some (0, σ144)
                          )
                        )
                      ) else none
                    ) else none
                  ) else none
                )
              ) else none
            ) else none
          ) else none
        ) else (
        if ((xs (k_n x3)) &&& 63) = 35 then (
          if k_in (x3 + 1) L then (
            if k_in (x3 + 2) L then (
              if k_in (x3 + 3) L then (
                k_bd (f_X6_lay  (xs (k_n (x3 + 1))) (xs (k_n (x3 + 2))) (xs (k_n (x3 + 3))) σ) (fun r147 σ147 =>
                  if k_in (x3 + 1) L then (
                    if k_in (x3 + 2) L then (
                      if k_in (x3 + 3) L then (
                        k_bd (f_X7_lay  (xs (k_n (x3 + 1))) (xs (k_n (x3 + 2))) (xs (k_n (x3 + 3))) σ147) (fun r148 σ148 =>
                          if r147 = r148 then (
                            j_L_law_1355 L xs (fun x3 σ => l_L_law_18 L xs  n x3 σ) x3 σ148
                          ) else (
                            some (0, σ148)
                          )
                        )
                      ) else none
                    ) else none
                  ) else none
                )
              ) else none
            ) else none
          ) else none
        ) else (
        if ((xs (k_n x3)) &&& 63) = 36 then (
          if k_in (x3 + 1) L then (
            if k_in (x3 + 2) L then (
              if k_in (x3 + 3) L then (
                if k_in (x3 + 4) L then (
                  k_bd (f_X6_read  (xs (k_n (x3 + 1))) (xs (k_n (x3 + 2))) (xs (k_n (x3 + 3))) (xs (k_n (x3 + 4))) σ) (fun r151 σ151 =>
                    if k_in (x3 + 1) L then (
                      if k_in (x3 + 2) L then (
                        if k_in (x3 + 3) L then (
                          if k_in (x3 + 4) L then (
                            k_bd (f_X7_read  (xs (k_n (x3 + 1))) (xs (k_n (x3 + 2))) (xs (k_n (x3 + 3))) (xs (k_n (x3 + 4))) σ151) (fun r152 σ152 =>
                              if r151 = r152 then (
                                j_L_law_1355 L xs (fun x3 σ => l_L_law_18 L xs  n x3 σ) x3 σ152
                              ) else (
                                some (0, σ152)
                              )
                            )
                          ) else none
                        ) else none
                      ) else none
                    ) else none
                  )
                ) else none
              ) else none
            ) else none
          ) else none
        ) else (
        if ((xs (k_n x3)) &&& 63) = 37 then (
          k_bd (f_X6_torn   σ) (fun r155 σ155 =>
            k_bd (f_X7_torn   σ155) (fun r156 σ156 =>
              if r155 = r156 then (
                j_L_law_1355 L xs (fun x3 σ => l_L_law_18 L xs  n x3 σ) x3 σ156
              ) else (
                some (0, σ156)
              )
            )
          )
        ) else (
        if ((xs (k_n x3)) &&& 63) = 38 then (
          if k_in (x3 + 1) L then (
            k_bd (f_X6_count  (xs (k_n (x3 + 1))) σ) (fun r159 σ159 =>
              if k_in (x3 + 1) L then (
                k_bd (f_X7_count  (xs (k_n (x3 + 1))) σ159) (fun r160 σ160 =>
                  if r159 = r160 then (
                    j_L_law_1355 L xs (fun x3 σ => l_L_law_18 L xs  n x3 σ) x3 σ160
                  ) else (
                    some (0, σ160)
                  )
                )
              ) else none
            )
          ) else none
        ) else (
          j_L_law_1355 L xs (fun x3 σ => l_L_law_18 L xs  n x3 σ) x3 σ
        )))))))))))))))))))))))))))))))))))))))
      ) else none
    )
set_option maxRecDepth 100000 in
theorem gl_L_law_18 (E : k_EV)     : ∀ (n : Nat) (x3 : Int32)  (σ : k_Mem), k_GO m_L_law E k_vi 18 [(0, k_rb E), (1, k_rf E 0), (2, k_rf E 67), (3, .int x3)] [] σ (l_L_law_18 E.2.2.2.2.2.2.1 E.2.2.2.2.2.2.2  n x3 σ) := by
  intro n
  induction n with
  | zero => intro x3  σ; exact r_none
  | succ n ih =>
    intro x3  σ
    rw [l_L_law_18]
    refine r_iload_n 3 rfl rfl 19 rfl dL_law_18 ?_
    refine r_aload_n 0 rfl rfl 20 rfl dL_law_19 ?_
    refine r_slenn rfl 21 rfl dL_law_20 ?_
    refine r_iconst 5 (by decide) 22 rfl dL_law_21 ?_
    refine r_isub 23 rfl dL_law_22 ?_
    refine r_icmp_gt 1361 26 rfl (by decide) dL_law_23 (fun c1 => ?_) (fun c1 => ?_)
    · refine r_iconst 1 (by decide) 1362 rfl dL_law_1361 ?_
      exact r_zret rfl (Or.inr rfl) dL_law_1362
    · refine r_aload_n 0 rfl rfl 27 rfl dL_law_26 ?_
      refine r_iload_n 3 rfl rfl 28 rfl dL_law_27 ?_
      refine r_sld rfl 29 rfl dL_law_28 ?_
      refine r_bipush 63 (by decide) 31 rfl dL_law_29 ?_
      refine r_iand 32 rfl dL_law_31 ?_
      refine r_split (fun c2 => ?_) (fun c2 => ?_)
      · refine r_tin 0 c2 172 204 (by decide) (by decide) (by decide) (by decide) dL_law_32 ?_
        refine r_aload_n 1 rfl rfl 205 rfl dL_law_204 ?_
        refine r_aload_n 0 rfl rfl 206 rfl dL_law_205 ?_
        refine r_iload_n 3 rfl rfl 207 rfl dL_law_206 ?_
        refine r_iconst 1 (by decide) 208 rfl dL_law_207 ?_
        refine r_iadd 209 rfl dL_law_208 ?_
        refine r_sld rfl 210 rfl dL_law_209 ?_
        refine r_calli (c_X6_feed E   _ _) rfl sh_0 rfl ml_L_13 cw_X6_feed vw_X6_feed (by decide) (Nat.le_of_ble_eq_true rfl) 213 rfl dL_law_210 (fun r3 σ3 => ?_)
        refine r_aload_n 2 rfl rfl 214 rfl dL_law_213 ?_
        refine r_aload_n 0 rfl rfl 215 rfl dL_law_214 ?_
        refine r_iload_n 3 rfl rfl 216 rfl dL_law_215 ?_
        refine r_iconst 1 (by decide) 217 rfl dL_law_216 ?_
        refine r_iadd 218 rfl dL_law_217 ?_
        refine r_sld rfl 219 rfl dL_law_218 ?_
        refine r_calli (c_X7_feed E   _ _) rfl sh_67 rfl ml_L_17 cw_X7_feed vw_X7_feed (by decide) (Nat.le_of_ble_eq_true rfl) 222 rfl dL_law_219 (fun r4 σ4 => ?_)
        refine r_icmp_eq 1355 225 rfl (by decide) dL_law_222 (fun c5 => ?_) (fun c5 => ?_)
        · exact r_sub [0, 1, 2, 3] rfl (gj_L_law_1355 E   _ (fun x3  σ => ih x3  σ) _  _)
        · refine r_iconst 0 (by decide) 226 rfl dL_law_225 ?_
          exact r_zret rfl (Or.inl rfl) dL_law_226
      refine r_split (fun c6 => ?_) (fun c6 => ?_)
      · refine r_tin 1 c6 195 227 (by decide) (by decide) (by decide) (by decide) dL_law_32 ?_
        refine r_aload_n 1 rfl rfl 228 rfl dL_law_227 ?_
        refine r_aload_n 0 rfl rfl 229 rfl dL_law_228 ?_
        refine r_iload_n 3 rfl rfl 230 rfl dL_law_229 ?_
        refine r_iconst 1 (by decide) 231 rfl dL_law_230 ?_
        refine r_iadd 232 rfl dL_law_231 ?_
        refine r_sld rfl 233 rfl dL_law_232 ?_
        refine r_calli (c_X6_end E   _ _) rfl sh_0 rfl ml_L_18 cw_X6_end vw_X6_end (by decide) (Nat.le_of_ble_eq_true rfl) 236 rfl dL_law_233 (fun r7 σ7 => ?_)
        refine r_aload_n 2 rfl rfl 237 rfl dL_law_236 ?_
        refine r_aload_n 0 rfl rfl 238 rfl dL_law_237 ?_
        refine r_iload_n 3 rfl rfl 239 rfl dL_law_238 ?_
        refine r_iconst 1 (by decide) 240 rfl dL_law_239 ?_
        refine r_iadd 241 rfl dL_law_240 ?_
        refine r_sld rfl 242 rfl dL_law_241 ?_
        refine r_calli (c_X7_end E   _ _) rfl sh_67 rfl ml_L_21 cw_X7_end vw_X7_end (by decide) (Nat.le_of_ble_eq_true rfl) 245 rfl dL_law_242 (fun r8 σ8 => ?_)
        refine r_icmp_eq 1355 248 rfl (by decide) dL_law_245 (fun c9 => ?_) (fun c9 => ?_)
        · exact r_sub [0, 1, 2, 3] rfl (gj_L_law_1355 E   _ (fun x3  σ => ih x3  σ) _  _)
        · refine r_iconst 0 (by decide) 249 rfl dL_law_248 ?_
          exact r_zret rfl (Or.inl rfl) dL_law_249
      refine r_split (fun c10 => ?_) (fun c10 => ?_)
      · refine r_tin 2 c10 218 250 (by decide) (by decide) (by decide) (by decide) dL_law_32 ?_
        refine r_aload_n 1 rfl rfl 251 rfl dL_law_250 ?_
        refine r_calli (c_X6_text E    _) rfl sh_0 rfl ml_L_22 cw_X6_text vw_X6_text (by decide) (Nat.le_of_ble_eq_true rfl) 254 rfl dL_law_251 (fun r11 σ11 => ?_)
        refine r_aload_n 2 rfl rfl 255 rfl dL_law_254 ?_
        refine r_calli (c_X7_text E    _) rfl sh_67 rfl ml_L_26 cw_X7_text vw_X7_text (by decide) (Nat.le_of_ble_eq_true rfl) 258 rfl dL_law_255 (fun r12 σ12 => ?_)
        refine r_icmp_eq 1355 261 rfl (by decide) dL_law_258 (fun c13 => ?_) (fun c13 => ?_)
        · exact r_sub [0, 1, 2, 3] rfl (gj_L_law_1355 E   _ (fun x3  σ => ih x3  σ) _  _)
        · refine r_iconst 0 (by decide) 262 rfl dL_law_261 ?_
          exact r_zret rfl (Or.inl rfl) dL_law_262
      refine r_split (fun c14 => ?_) (fun c14 => ?_)
      · refine r_tin 3 c14 231 263 (by decide) (by decide) (by decide) (by decide) dL_law_32 ?_
        refine r_aload_n 1 rfl rfl 264 rfl dL_law_263 ?_
        refine r_calli (c_X6_fault E    _) rfl sh_0 rfl ml_L_27 cw_X6_fault vw_X6_fault (by decide) (Nat.le_of_ble_eq_true rfl) 267 rfl dL_law_264 (fun r15 σ15 => ?_)
        refine r_aload_n 2 rfl rfl 268 rfl dL_law_267 ?_
        refine r_calli (c_X7_fault E    _) rfl sh_67 rfl ml_L_30 cw_X7_fault vw_X7_fault (by decide) (Nat.le_of_ble_eq_true rfl) 271 rfl dL_law_268 (fun r16 σ16 => ?_)
        refine r_icmp_eq 1355 274 rfl (by decide) dL_law_271 (fun c17 => ?_) (fun c17 => ?_)
        · exact r_sub [0, 1, 2, 3] rfl (gj_L_law_1355 E   _ (fun x3  σ => ih x3  σ) _  _)
        · refine r_iconst 0 (by decide) 275 rfl dL_law_274 ?_
          exact r_zret rfl (Or.inl rfl) dL_law_275
      refine r_split (fun c18 => ?_) (fun c18 => ?_)
      · refine r_tin 4 c18 244 276 (by decide) (by decide) (by decide) (by decide) dL_law_32 ?_
        refine r_aload_n 1 rfl rfl 277 rfl dL_law_276 ?_
        refine r_aload_n 0 rfl rfl 278 rfl dL_law_277 ?_
        refine r_iload_n 3 rfl rfl 279 rfl dL_law_278 ?_
        refine r_iconst 1 (by decide) 280 rfl dL_law_279 ?_
        refine r_iadd 281 rfl dL_law_280 ?_
        refine r_sld rfl 282 rfl dL_law_281 ?_
        refine r_calli (c_X6_rule E   _ _) rfl sh_0 rfl ml_L_31 cw_X6_rule vw_X6_rule (by decide) (Nat.le_of_ble_eq_true rfl) 285 rfl dL_law_282 (fun r19 σ19 => ?_)
        refine r_aload_n 2 rfl rfl 286 rfl dL_law_285 ?_
        refine r_aload_n 0 rfl rfl 287 rfl dL_law_286 ?_
        refine r_iload_n 3 rfl rfl 288 rfl dL_law_287 ?_
        refine r_iconst 1 (by decide) 289 rfl dL_law_288 ?_
        refine r_iadd 290 rfl dL_law_289 ?_
        refine r_sld rfl 291 rfl dL_law_290 ?_
        refine r_calli (c_X7_rule E   _ _) rfl sh_67 rfl ml_L_34 cw_X7_rule vw_X7_rule (by decide) (Nat.le_of_ble_eq_true rfl) 294 rfl dL_law_291 (fun r20 σ20 => ?_)
        refine r_icmp_eq 1355 297 rfl (by decide) dL_law_294 (fun c21 => ?_) (fun c21 => ?_)
        · exact r_sub [0, 1, 2, 3] rfl (gj_L_law_1355 E   _ (fun x3  σ => ih x3  σ) _  _)
        · refine r_iconst 0 (by decide) 298 rfl dL_law_297 ?_
          exact r_zret rfl (Or.inl rfl) dL_law_298
      refine r_split (fun c22 => ?_) (fun c22 => ?_)
      · refine r_tin 5 c22 267 299 (by decide) (by decide) (by decide) (by decide) dL_law_32 ?_
        refine r_aload_n 1 rfl rfl 300 rfl dL_law_299 ?_
        refine r_aload_n 0 rfl rfl 301 rfl dL_law_300 ?_
        refine r_iload_n 3 rfl rfl 302 rfl dL_law_301 ?_
        refine r_iconst 1 (by decide) 303 rfl dL_law_302 ?_
        refine r_iadd 304 rfl dL_law_303 ?_
        refine r_sld rfl 305 rfl dL_law_304 ?_
        refine r_aload_n 0 rfl rfl 306 rfl dL_law_305 ?_
        refine r_iload_n 3 rfl rfl 307 rfl dL_law_306 ?_
        refine r_iconst 2 (by decide) 308 rfl dL_law_307 ?_
        refine r_iadd 309 rfl dL_law_308 ?_
        refine r_sld rfl 310 rfl dL_law_309 ?_
        refine r_calli (c_X6_hand E   _ _ _) rfl sh_0 rfl ml_L_35 cw_X6_hand vw_X6_hand (by decide) (Nat.le_of_ble_eq_true rfl) 313 rfl dL_law_310 (fun r23 σ23 => ?_)
        refine r_aload_n 2 rfl rfl 314 rfl dL_law_313 ?_
        refine r_aload_n 0 rfl rfl 315 rfl dL_law_314 ?_
        refine r_iload_n 3 rfl rfl 316 rfl dL_law_315 ?_
        refine r_iconst 1 (by decide) 317 rfl dL_law_316 ?_
        refine r_iadd 318 rfl dL_law_317 ?_
        refine r_sld rfl 319 rfl dL_law_318 ?_
        refine r_aload_n 0 rfl rfl 320 rfl dL_law_319 ?_
        refine r_iload_n 3 rfl rfl 321 rfl dL_law_320 ?_
        refine r_iconst 2 (by decide) 322 rfl dL_law_321 ?_
        refine r_iadd 323 rfl dL_law_322 ?_
        refine r_sld rfl 324 rfl dL_law_323 ?_
        refine r_calli (c_X7_hand E   _ _ _) rfl sh_67 rfl ml_L_39 cw_X7_hand vw_X7_hand (by decide) (Nat.le_of_ble_eq_true rfl) 327 rfl dL_law_324 (fun r24 σ24 => ?_)
        refine r_icmp_eq 1355 330 rfl (by decide) dL_law_327 (fun c25 => ?_) (fun c25 => ?_)
        · exact r_sub [0, 1, 2, 3] rfl (gj_L_law_1355 E   _ (fun x3  σ => ih x3  σ) _  _)
        · refine r_iconst 0 (by decide) 331 rfl dL_law_330 ?_
          exact r_zret rfl (Or.inl rfl) dL_law_331
      refine r_split (fun c26 => ?_) (fun c26 => ?_)
      · refine r_tin 6 c26 300 332 (by decide) (by decide) (by decide) (by decide) dL_law_32 ?_
        refine r_aload_n 1 rfl rfl 333 rfl dL_law_332 ?_
        refine r_aload_n 0 rfl rfl 334 rfl dL_law_333 ?_
        refine r_iload_n 3 rfl rfl 335 rfl dL_law_334 ?_
        refine r_iconst 1 (by decide) 336 rfl dL_law_335 ?_
        refine r_iadd 337 rfl dL_law_336 ?_
        refine r_sld rfl 338 rfl dL_law_337 ?_
        refine r_aload_n 0 rfl rfl 339 rfl dL_law_338 ?_
        refine r_iload_n 3 rfl rfl 340 rfl dL_law_339 ?_
        refine r_iconst 2 (by decide) 341 rfl dL_law_340 ?_
        refine r_iadd 342 rfl dL_law_341 ?_
        refine r_sld rfl 343 rfl dL_law_342 ?_
        refine r_calli (c_X6_page E   _ _ _) rfl sh_0 rfl ml_L_40 cw_X6_page vw_X6_page (by decide) (Nat.le_of_ble_eq_true rfl) 346 rfl dL_law_343 (fun r27 σ27 => ?_)
        refine r_aload_n 2 rfl rfl 347 rfl dL_law_346 ?_
        refine r_aload_n 0 rfl rfl 348 rfl dL_law_347 ?_
        refine r_iload_n 3 rfl rfl 349 rfl dL_law_348 ?_
        refine r_iconst 1 (by decide) 350 rfl dL_law_349 ?_
        refine r_iadd 351 rfl dL_law_350 ?_
        refine r_sld rfl 352 rfl dL_law_351 ?_
        refine r_aload_n 0 rfl rfl 353 rfl dL_law_352 ?_
        refine r_iload_n 3 rfl rfl 354 rfl dL_law_353 ?_
        refine r_iconst 2 (by decide) 355 rfl dL_law_354 ?_
        refine r_iadd 356 rfl dL_law_355 ?_
        refine r_sld rfl 357 rfl dL_law_356 ?_
        refine r_calli (c_X7_page E   _ _ _) rfl sh_67 rfl ml_L_43 cw_X7_page vw_X7_page (by decide) (Nat.le_of_ble_eq_true rfl) 360 rfl dL_law_357 (fun r28 σ28 => ?_)
        refine r_icmp_eq 1355 363 rfl (by decide) dL_law_360 (fun c29 => ?_) (fun c29 => ?_)
        · exact r_sub [0, 1, 2, 3] rfl (gj_L_law_1355 E   _ (fun x3  σ => ih x3  σ) _  _)
        · refine r_iconst 0 (by decide) 364 rfl dL_law_363 ?_
          exact r_zret rfl (Or.inl rfl) dL_law_364
      refine r_split (fun c30 => ?_) (fun c30 => ?_)
      · refine r_tin 7 c30 333 365 (by decide) (by decide) (by decide) (by decide) dL_law_32 ?_
        refine r_aload_n 1 rfl rfl 366 rfl dL_law_365 ?_
        refine r_aload_n 0 rfl rfl 367 rfl dL_law_366 ?_
        refine r_iload_n 3 rfl rfl 368 rfl dL_law_367 ?_
        refine r_iconst 1 (by decide) 369 rfl dL_law_368 ?_
        refine r_iadd 370 rfl dL_law_369 ?_
        refine r_sld rfl 371 rfl dL_law_370 ?_
        refine r_aload_n 0 rfl rfl 372 rfl dL_law_371 ?_
        refine r_iload_n 3 rfl rfl 373 rfl dL_law_372 ?_
        refine r_iconst 2 (by decide) 374 rfl dL_law_373 ?_
        refine r_iadd 375 rfl dL_law_374 ?_
        refine r_sld rfl 376 rfl dL_law_375 ?_
        refine r_calli (c_X6_likes E   _ _ _) rfl sh_0 rfl ml_L_44 cw_X6_likes vw_X6_likes (by decide) (Nat.le_of_ble_eq_true rfl) 379 rfl dL_law_376 (fun r31 σ31 => ?_)
        refine r_aload_n 2 rfl rfl 380 rfl dL_law_379 ?_
        refine r_aload_n 0 rfl rfl 381 rfl dL_law_380 ?_
        refine r_iload_n 3 rfl rfl 382 rfl dL_law_381 ?_
        refine r_iconst 1 (by decide) 383 rfl dL_law_382 ?_
        refine r_iadd 384 rfl dL_law_383 ?_
        refine r_sld rfl 385 rfl dL_law_384 ?_
        refine r_aload_n 0 rfl rfl 386 rfl dL_law_385 ?_
        refine r_iload_n 3 rfl rfl 387 rfl dL_law_386 ?_
        refine r_iconst 2 (by decide) 388 rfl dL_law_387 ?_
        refine r_iadd 389 rfl dL_law_388 ?_
        refine r_sld rfl 390 rfl dL_law_389 ?_
        refine r_calli (c_X7_likes E   _ _ _) rfl sh_67 rfl ml_L_47 cw_X7_likes vw_X7_likes (by decide) (Nat.le_of_ble_eq_true rfl) 393 rfl dL_law_390 (fun r32 σ32 => ?_)
        refine r_icmp_eq 1355 396 rfl (by decide) dL_law_393 (fun c33 => ?_) (fun c33 => ?_)
        · exact r_sub [0, 1, 2, 3] rfl (gj_L_law_1355 E   _ (fun x3  σ => ih x3  σ) _  _)
        · refine r_iconst 0 (by decide) 397 rfl dL_law_396 ?_
          exact r_zret rfl (Or.inl rfl) dL_law_397
      refine r_split (fun c34 => ?_) (fun c34 => ?_)
      · refine r_tin 8 c34 366 398 (by decide) (by decide) (by decide) (by decide) dL_law_32 ?_
        refine r_aload_n 1 rfl rfl 399 rfl dL_law_398 ?_
        refine r_aload_n 0 rfl rfl 400 rfl dL_law_399 ?_
        refine r_iload_n 3 rfl rfl 401 rfl dL_law_400 ?_
        refine r_iconst 1 (by decide) 402 rfl dL_law_401 ?_
        refine r_iadd 403 rfl dL_law_402 ?_
        refine r_sld rfl 404 rfl dL_law_403 ?_
        refine r_aload_n 0 rfl rfl 405 rfl dL_law_404 ?_
        refine r_iload_n 3 rfl rfl 406 rfl dL_law_405 ?_
        refine r_iconst 2 (by decide) 407 rfl dL_law_406 ?_
        refine r_iadd 408 rfl dL_law_407 ?_
        refine r_sld rfl 409 rfl dL_law_408 ?_
        refine r_calli (c_X6_rather E   _ _ _) rfl sh_0 rfl ml_L_48 cw_X6_rather vw_X6_rather (by decide) (Nat.le_of_ble_eq_true rfl) 412 rfl dL_law_409 (fun r35 σ35 => ?_)
        refine r_aload_n 2 rfl rfl 413 rfl dL_law_412 ?_
        refine r_aload_n 0 rfl rfl 414 rfl dL_law_413 ?_
        refine r_iload_n 3 rfl rfl 415 rfl dL_law_414 ?_
        refine r_iconst 1 (by decide) 416 rfl dL_law_415 ?_
        refine r_iadd 417 rfl dL_law_416 ?_
        refine r_sld rfl 418 rfl dL_law_417 ?_
        refine r_aload_n 0 rfl rfl 419 rfl dL_law_418 ?_
        refine r_iload_n 3 rfl rfl 420 rfl dL_law_419 ?_
        refine r_iconst 2 (by decide) 421 rfl dL_law_420 ?_
        refine r_iadd 422 rfl dL_law_421 ?_
        refine r_sld rfl 423 rfl dL_law_422 ?_
        refine r_calli (c_X7_rather E   _ _ _) rfl sh_67 rfl ml_L_51 cw_X7_rather vw_X7_rather (by decide) (Nat.le_of_ble_eq_true rfl) 426 rfl dL_law_423 (fun r36 σ36 => ?_)
        refine r_icmp_eq 1355 429 rfl (by decide) dL_law_426 (fun c37 => ?_) (fun c37 => ?_)
        · exact r_sub [0, 1, 2, 3] rfl (gj_L_law_1355 E   _ (fun x3  σ => ih x3  σ) _  _)
        · refine r_iconst 0 (by decide) 430 rfl dL_law_429 ?_
          exact r_zret rfl (Or.inl rfl) dL_law_430
      refine r_split (fun c38 => ?_) (fun c38 => ?_)
      · refine r_tin 9 c38 399 431 (by decide) (by decide) (by decide) (by decide) dL_law_32 ?_
        refine r_aload_n 1 rfl rfl 432 rfl dL_law_431 ?_
        refine r_aload_n 0 rfl rfl 433 rfl dL_law_432 ?_
        refine r_iload_n 3 rfl rfl 434 rfl dL_law_433 ?_
        refine r_iconst 1 (by decide) 435 rfl dL_law_434 ?_
        refine r_iadd 436 rfl dL_law_435 ?_
        refine r_sld rfl 437 rfl dL_law_436 ?_
        refine r_aload_n 0 rfl rfl 438 rfl dL_law_437 ?_
        refine r_iload_n 3 rfl rfl 439 rfl dL_law_438 ?_
        refine r_iconst 2 (by decide) 440 rfl dL_law_439 ?_
        refine r_iadd 441 rfl dL_law_440 ?_
        refine r_sld rfl 442 rfl dL_law_441 ?_
        refine r_aload_n 0 rfl rfl 443 rfl dL_law_442 ?_
        refine r_iload_n 3 rfl rfl 444 rfl dL_law_443 ?_
        refine r_iconst 3 (by decide) 445 rfl dL_law_444 ?_
        refine r_iadd 446 rfl dL_law_445 ?_
        refine r_sld rfl 447 rfl dL_law_446 ?_
        refine r_calli (c_X6_alter E   _ _ _ _) rfl sh_0 rfl ml_L_52 cw_X6_alter vw_X6_alter (by decide) (Nat.le_of_ble_eq_true rfl) 450 rfl dL_law_447 (fun r39 σ39 => ?_)
        refine r_aload_n 2 rfl rfl 451 rfl dL_law_450 ?_
        refine r_aload_n 0 rfl rfl 452 rfl dL_law_451 ?_
        refine r_iload_n 3 rfl rfl 453 rfl dL_law_452 ?_
        refine r_iconst 1 (by decide) 454 rfl dL_law_453 ?_
        refine r_iadd 455 rfl dL_law_454 ?_
        refine r_sld rfl 456 rfl dL_law_455 ?_
        refine r_aload_n 0 rfl rfl 457 rfl dL_law_456 ?_
        refine r_iload_n 3 rfl rfl 458 rfl dL_law_457 ?_
        refine r_iconst 2 (by decide) 459 rfl dL_law_458 ?_
        refine r_iadd 460 rfl dL_law_459 ?_
        refine r_sld rfl 461 rfl dL_law_460 ?_
        refine r_aload_n 0 rfl rfl 462 rfl dL_law_461 ?_
        refine r_iload_n 3 rfl rfl 463 rfl dL_law_462 ?_
        refine r_iconst 3 (by decide) 464 rfl dL_law_463 ?_
        refine r_iadd 465 rfl dL_law_464 ?_
        refine r_sld rfl 466 rfl dL_law_465 ?_
        refine r_calli (c_X7_alter E   _ _ _ _) rfl sh_67 rfl ml_L_56 cw_X7_alter vw_X7_alter (by decide) (Nat.le_of_ble_eq_true rfl) 469 rfl dL_law_466 (fun r40 σ40 => ?_)
        refine r_icmp_eq 1355 472 rfl (by decide) dL_law_469 (fun c41 => ?_) (fun c41 => ?_)
        · exact r_sub [0, 1, 2, 3] rfl (gj_L_law_1355 E   _ (fun x3  σ => ih x3  σ) _  _)
        · refine r_iconst 0 (by decide) 473 rfl dL_law_472 ?_
          exact r_zret rfl (Or.inl rfl) dL_law_473
      refine r_split (fun c42 => ?_) (fun c42 => ?_)
      · refine r_tin 10 c42 442 474 (by decide) (by decide) (by decide) (by decide) dL_law_32 ?_
        refine r_aload_n 1 rfl rfl 475 rfl dL_law_474 ?_
        refine r_aload_n 0 rfl rfl 476 rfl dL_law_475 ?_
        refine r_iload_n 3 rfl rfl 477 rfl dL_law_476 ?_
        refine r_iconst 1 (by decide) 478 rfl dL_law_477 ?_
        refine r_iadd 479 rfl dL_law_478 ?_
        refine r_sld rfl 480 rfl dL_law_479 ?_
        refine r_aload_n 0 rfl rfl 481 rfl dL_law_480 ?_
        refine r_iload_n 3 rfl rfl 482 rfl dL_law_481 ?_
        refine r_iconst 2 (by decide) 483 rfl dL_law_482 ?_
        refine r_iadd 484 rfl dL_law_483 ?_
        refine r_sld rfl 485 rfl dL_law_484 ?_
        refine r_if_eq 492 488 rfl (by decide) dL_law_485 (fun c43 => ?_) (fun c43 => ?_)
        · refine r_iconst 0 (by decide) 493 rfl dL_law_492 ?_
          exact r_sub [0, 1, 2, 3] rfl (gj_L_law_493 E   _ (fun x3  σ => ih x3  σ) _ _ _  _)
        · refine r_iconst 1 (by decide) 489 rfl dL_law_488 ?_
          refine r_goto 493 (by decide) dL_law_489 ?_
          exact r_sub [0, 1, 2, 3] rfl (gj_L_law_493 E   _ (fun x3  σ => ih x3  σ) _ _ _  _)
      refine r_split (fun c48 => ?_) (fun c48 => ?_)
      · refine r_tin 11 c48 491 523 (by decide) (by decide) (by decide) (by decide) dL_law_32 ?_
        refine r_aload_n 1 rfl rfl 524 rfl dL_law_523 ?_
        refine r_aload_n 0 rfl rfl 525 rfl dL_law_524 ?_
        refine r_iload_n 3 rfl rfl 526 rfl dL_law_525 ?_
        refine r_iconst 1 (by decide) 527 rfl dL_law_526 ?_
        refine r_iadd 528 rfl dL_law_527 ?_
        refine r_sld rfl 529 rfl dL_law_528 ?_
        refine r_aload_n 0 rfl rfl 530 rfl dL_law_529 ?_
        refine r_iload_n 3 rfl rfl 531 rfl dL_law_530 ?_
        refine r_iconst 2 (by decide) 532 rfl dL_law_531 ?_
        refine r_iadd 533 rfl dL_law_532 ?_
        refine r_sld rfl 534 rfl dL_law_533 ?_
        refine r_aload_n 0 rfl rfl 535 rfl dL_law_534 ?_
        refine r_iload_n 3 rfl rfl 536 rfl dL_law_535 ?_
        refine r_iconst 3 (by decide) 537 rfl dL_law_536 ?_
        refine r_iadd 538 rfl dL_law_537 ?_
        refine r_sld rfl 539 rfl dL_law_538 ?_
        refine r_if_eq 546 542 rfl (by decide) dL_law_539 (fun c49 => ?_) (fun c49 => ?_)
        · refine r_iconst 0 (by decide) 547 rfl dL_law_546 ?_
          exact r_sub [0, 1, 2, 3] rfl (gj_L_law_547 E   _ (fun x3  σ => ih x3  σ) _ _ _ _  _)
        · refine r_iconst 1 (by decide) 543 rfl dL_law_542 ?_
          refine r_goto 547 (by decide) dL_law_543 ?_
          exact r_sub [0, 1, 2, 3] rfl (gj_L_law_547 E   _ (fun x3  σ => ih x3  σ) _ _ _ _  _)
      refine r_split (fun c54 => ?_) (fun c54 => ?_)
      · refine r_tin 12 c54 550 582 (by decide) (by decide) (by decide) (by decide) dL_law_32 ?_
        refine r_aload_n 1 rfl rfl 583 rfl dL_law_582 ?_
        refine r_aload_n 0 rfl rfl 584 rfl dL_law_583 ?_
        refine r_iload_n 3 rfl rfl 585 rfl dL_law_584 ?_
        refine r_iconst 1 (by decide) 586 rfl dL_law_585 ?_
        refine r_iadd 587 rfl dL_law_586 ?_
        refine r_sld rfl 588 rfl dL_law_587 ?_
        refine r_aload_n 0 rfl rfl 589 rfl dL_law_588 ?_
        refine r_iload_n 3 rfl rfl 590 rfl dL_law_589 ?_
        refine r_iconst 2 (by decide) 591 rfl dL_law_590 ?_
        refine r_iadd 592 rfl dL_law_591 ?_
        refine r_sld rfl 593 rfl dL_law_592 ?_
        refine r_calli (c_X6_wed E   _ _ _) rfl sh_0 rfl ml_L_67 cw_X6_wed vw_X6_wed (by decide) (Nat.le_of_ble_eq_true rfl) 596 rfl dL_law_593 (fun r55 σ55 => ?_)
        refine r_aload_n 2 rfl rfl 597 rfl dL_law_596 ?_
        refine r_aload_n 0 rfl rfl 598 rfl dL_law_597 ?_
        refine r_iload_n 3 rfl rfl 599 rfl dL_law_598 ?_
        refine r_iconst 1 (by decide) 600 rfl dL_law_599 ?_
        refine r_iadd 601 rfl dL_law_600 ?_
        refine r_sld rfl 602 rfl dL_law_601 ?_
        refine r_aload_n 0 rfl rfl 603 rfl dL_law_602 ?_
        refine r_iload_n 3 rfl rfl 604 rfl dL_law_603 ?_
        refine r_iconst 2 (by decide) 605 rfl dL_law_604 ?_
        refine r_iadd 606 rfl dL_law_605 ?_
        refine r_sld rfl 607 rfl dL_law_606 ?_
        refine r_calli (c_X7_wed E   _ _ _) rfl sh_67 rfl ml_L_70 cw_X7_wed vw_X7_wed (by decide) (Nat.le_of_ble_eq_true rfl) 610 rfl dL_law_607 (fun r56 σ56 => ?_)
        refine r_icmp_eq 1355 613 rfl (by decide) dL_law_610 (fun c57 => ?_) (fun c57 => ?_)
        · exact r_sub [0, 1, 2, 3] rfl (gj_L_law_1355 E   _ (fun x3  σ => ih x3  σ) _  _)
        · refine r_iconst 0 (by decide) 614 rfl dL_law_613 ?_
          exact r_zret rfl (Or.inl rfl) dL_law_614
      refine r_split (fun c58 => ?_) (fun c58 => ?_)
      · refine r_tin 13 c58 583 615 (by decide) (by decide) (by decide) (by decide) dL_law_32 ?_
        refine r_aload_n 1 rfl rfl 616 rfl dL_law_615 ?_
        refine r_aload_n 0 rfl rfl 617 rfl dL_law_616 ?_
        refine r_iload_n 3 rfl rfl 618 rfl dL_law_617 ?_
        refine r_iconst 1 (by decide) 619 rfl dL_law_618 ?_
        refine r_iadd 620 rfl dL_law_619 ?_
        refine r_sld rfl 621 rfl dL_law_620 ?_
        refine r_calli (c_X6_part E   _ _) rfl sh_0 rfl ml_L_71 cw_X6_part vw_X6_part (by decide) (Nat.le_of_ble_eq_true rfl) 624 rfl dL_law_621 (fun r59 σ59 => ?_)
        refine r_aload_n 2 rfl rfl 625 rfl dL_law_624 ?_
        refine r_aload_n 0 rfl rfl 626 rfl dL_law_625 ?_
        refine r_iload_n 3 rfl rfl 627 rfl dL_law_626 ?_
        refine r_iconst 1 (by decide) 628 rfl dL_law_627 ?_
        refine r_iadd 629 rfl dL_law_628 ?_
        refine r_sld rfl 630 rfl dL_law_629 ?_
        refine r_calli (c_X7_part E   _ _) rfl sh_67 rfl ml_L_74 cw_X7_part vw_X7_part (by decide) (Nat.le_of_ble_eq_true rfl) 633 rfl dL_law_630 (fun r60 σ60 => ?_)
        refine r_icmp_eq 1355 636 rfl (by decide) dL_law_633 (fun c61 => ?_) (fun c61 => ?_)
        · exact r_sub [0, 1, 2, 3] rfl (gj_L_law_1355 E   _ (fun x3  σ => ih x3  σ) _  _)
        · refine r_iconst 0 (by decide) 637 rfl dL_law_636 ?_
          exact r_zret rfl (Or.inl rfl) dL_law_637
      refine r_split (fun c62 => ?_) (fun c62 => ?_)
      · refine r_tin 14 c62 606 638 (by decide) (by decide) (by decide) (by decide) dL_law_32 ?_
        refine r_aload_n 1 rfl rfl 639 rfl dL_law_638 ?_
        refine r_aload_n 0 rfl rfl 640 rfl dL_law_639 ?_
        refine r_iload_n 3 rfl rfl 641 rfl dL_law_640 ?_
        refine r_iconst 1 (by decide) 642 rfl dL_law_641 ?_
        refine r_iadd 643 rfl dL_law_642 ?_
        refine r_sld rfl 644 rfl dL_law_643 ?_
        refine r_aload_n 0 rfl rfl 645 rfl dL_law_644 ?_
        refine r_iload_n 3 rfl rfl 646 rfl dL_law_645 ?_
        refine r_iconst 2 (by decide) 647 rfl dL_law_646 ?_
        refine r_iadd 648 rfl dL_law_647 ?_
        refine r_sld rfl 649 rfl dL_law_648 ?_
        refine r_calli (c_X6_asked E   _ _ _) rfl sh_0 rfl ml_L_75 cw_X6_asked vw_X6_asked (by decide) (Nat.le_of_ble_eq_true rfl) 652 rfl dL_law_649 (fun r63 σ63 => ?_)
        refine r_aload_n 2 rfl rfl 653 rfl dL_law_652 ?_
        refine r_aload_n 0 rfl rfl 654 rfl dL_law_653 ?_
        refine r_iload_n 3 rfl rfl 655 rfl dL_law_654 ?_
        refine r_iconst 1 (by decide) 656 rfl dL_law_655 ?_
        refine r_iadd 657 rfl dL_law_656 ?_
        refine r_sld rfl 658 rfl dL_law_657 ?_
        refine r_aload_n 0 rfl rfl 659 rfl dL_law_658 ?_
        refine r_iload_n 3 rfl rfl 660 rfl dL_law_659 ?_
        refine r_iconst 2 (by decide) 661 rfl dL_law_660 ?_
        refine r_iadd 662 rfl dL_law_661 ?_
        refine r_sld rfl 663 rfl dL_law_662 ?_
        refine r_calli (c_X7_asked E   _ _ _) rfl sh_67 rfl ml_L_78 cw_X7_asked vw_X7_asked (by decide) (Nat.le_of_ble_eq_true rfl) 666 rfl dL_law_663 (fun r64 σ64 => ?_)
        refine r_icmp_eq 1355 669 rfl (by decide) dL_law_666 (fun c65 => ?_) (fun c65 => ?_)
        · exact r_sub [0, 1, 2, 3] rfl (gj_L_law_1355 E   _ (fun x3  σ => ih x3  σ) _  _)
        · refine r_iconst 0 (by decide) 670 rfl dL_law_669 ?_
          exact r_zret rfl (Or.inl rfl) dL_law_670
      refine r_split (fun c66 => ?_) (fun c66 => ?_)
      · refine r_tin 15 c66 639 671 (by decide) (by decide) (by decide) (by decide) dL_law_32 ?_
        refine r_aload_n 1 rfl rfl 672 rfl dL_law_671 ?_
        refine r_aload_n 0 rfl rfl 673 rfl dL_law_672 ?_
        refine r_iload_n 3 rfl rfl 674 rfl dL_law_673 ?_
        refine r_iconst 1 (by decide) 675 rfl dL_law_674 ?_
        refine r_iadd 676 rfl dL_law_675 ?_
        refine r_sld rfl 677 rfl dL_law_676 ?_
        refine r_calli (c_X6_sum E   _ _) rfl sh_0 rfl ml_L_79 cw_X6_sum vw_X6_sum (by decide) (Nat.le_of_ble_eq_true rfl) 680 rfl dL_law_677 (fun r67 σ67 => ?_)
        refine r_aload_n 2 rfl rfl 681 rfl dL_law_680 ?_
        refine r_aload_n 0 rfl rfl 682 rfl dL_law_681 ?_
        refine r_iload_n 3 rfl rfl 683 rfl dL_law_682 ?_
        refine r_iconst 1 (by decide) 684 rfl dL_law_683 ?_
        refine r_iadd 685 rfl dL_law_684 ?_
        refine r_sld rfl 686 rfl dL_law_685 ?_
        refine r_calli (c_X7_sum E   _ _) rfl sh_67 rfl ml_L_82 cw_X7_sum vw_X7_sum (by decide) (Nat.le_of_ble_eq_true rfl) 689 rfl dL_law_686 (fun r68 σ68 => ?_)
        refine r_icmp_eq 1355 692 rfl (by decide) dL_law_689 (fun c69 => ?_) (fun c69 => ?_)
        · exact r_sub [0, 1, 2, 3] rfl (gj_L_law_1355 E   _ (fun x3  σ => ih x3  σ) _  _)
        · refine r_iconst 0 (by decide) 693 rfl dL_law_692 ?_
          exact r_zret rfl (Or.inl rfl) dL_law_693
      refine r_split (fun c70 => ?_) (fun c70 => ?_)
      · refine r_tin 16 c70 662 694 (by decide) (by decide) (by decide) (by decide) dL_law_32 ?_
        refine r_aload_n 1 rfl rfl 695 rfl dL_law_694 ?_
        refine r_aload_n 0 rfl rfl 696 rfl dL_law_695 ?_
        refine r_iload_n 3 rfl rfl 697 rfl dL_law_696 ?_
        refine r_iconst 1 (by decide) 698 rfl dL_law_697 ?_
        refine r_iadd 699 rfl dL_law_698 ?_
        refine r_sld rfl 700 rfl dL_law_699 ?_
        refine r_calli (c_X6_hold E   _ _) rfl sh_0 rfl ml_L_83 cw_X6_hold vw_X6_hold (by decide) (Nat.le_of_ble_eq_true rfl) 703 rfl dL_law_700 (fun r71 σ71 => ?_)
        refine r_aload_n 2 rfl rfl 704 rfl dL_law_703 ?_
        refine r_aload_n 0 rfl rfl 705 rfl dL_law_704 ?_
        refine r_iload_n 3 rfl rfl 706 rfl dL_law_705 ?_
        refine r_iconst 1 (by decide) 707 rfl dL_law_706 ?_
        refine r_iadd 708 rfl dL_law_707 ?_
        refine r_sld rfl 709 rfl dL_law_708 ?_
        refine r_calli (c_X7_hold E   _ _) rfl sh_67 rfl ml_L_86 cw_X7_hold vw_X7_hold (by decide) (Nat.le_of_ble_eq_true rfl) 712 rfl dL_law_709 (fun r72 σ72 => ?_)
        refine r_icmp_eq 1355 715 rfl (by decide) dL_law_712 (fun c73 => ?_) (fun c73 => ?_)
        · exact r_sub [0, 1, 2, 3] rfl (gj_L_law_1355 E   _ (fun x3  σ => ih x3  σ) _  _)
        · refine r_iconst 0 (by decide) 716 rfl dL_law_715 ?_
          exact r_zret rfl (Or.inl rfl) dL_law_716
      refine r_split (fun c74 => ?_) (fun c74 => ?_)
      · refine r_tin 17 c74 685 717 (by decide) (by decide) (by decide) (by decide) dL_law_32 ?_
        refine r_aload_n 1 rfl rfl 718 rfl dL_law_717 ?_
        refine r_aload_n 0 rfl rfl 719 rfl dL_law_718 ?_
        refine r_iload_n 3 rfl rfl 720 rfl dL_law_719 ?_
        refine r_iconst 1 (by decide) 721 rfl dL_law_720 ?_
        refine r_iadd 722 rfl dL_law_721 ?_
        refine r_sld rfl 723 rfl dL_law_722 ?_
        refine r_calli (c_X6_most E   _ _) rfl sh_0 rfl ml_L_87 cw_X6_most vw_X6_most (by decide) (Nat.le_of_ble_eq_true rfl) 726 rfl dL_law_723 (fun r75 σ75 => ?_)
        refine r_aload_n 2 rfl rfl 727 rfl dL_law_726 ?_
        refine r_aload_n 0 rfl rfl 728 rfl dL_law_727 ?_
        refine r_iload_n 3 rfl rfl 729 rfl dL_law_728 ?_
        refine r_iconst 1 (by decide) 730 rfl dL_law_729 ?_
        refine r_iadd 731 rfl dL_law_730 ?_
        refine r_sld rfl 732 rfl dL_law_731 ?_
        refine r_calli (c_X7_most E   _ _) rfl sh_67 rfl ml_L_90 cw_X7_most vw_X7_most (by decide) (Nat.le_of_ble_eq_true rfl) 735 rfl dL_law_732 (fun r76 σ76 => ?_)
        refine r_icmp_eq 1355 738 rfl (by decide) dL_law_735 (fun c77 => ?_) (fun c77 => ?_)
        · exact r_sub [0, 1, 2, 3] rfl (gj_L_law_1355 E   _ (fun x3  σ => ih x3  σ) _  _)
        · refine r_iconst 0 (by decide) 739 rfl dL_law_738 ?_
          exact r_zret rfl (Or.inl rfl) dL_law_739
      refine r_split (fun c78 => ?_) (fun c78 => ?_)
      · refine r_tin 18 c78 708 740 (by decide) (by decide) (by decide) (by decide) dL_law_32 ?_
        refine r_aload_n 1 rfl rfl 741 rfl dL_law_740 ?_
        refine r_aload_n 0 rfl rfl 742 rfl dL_law_741 ?_
        refine r_iload_n 3 rfl rfl 743 rfl dL_law_742 ?_
        refine r_iconst 1 (by decide) 744 rfl dL_law_743 ?_
        refine r_iadd 745 rfl dL_law_744 ?_
        refine r_sld rfl 746 rfl dL_law_745 ?_
        refine r_calli (c_X6_quarrel E   _ _) rfl sh_0 rfl ml_L_91 cw_X6_quarrel vw_X6_quarrel (by decide) (Nat.le_of_ble_eq_true rfl) 749 rfl dL_law_746 (fun r79 σ79 => ?_)
        refine r_aload_n 2 rfl rfl 750 rfl dL_law_749 ?_
        refine r_aload_n 0 rfl rfl 751 rfl dL_law_750 ?_
        refine r_iload_n 3 rfl rfl 752 rfl dL_law_751 ?_
        refine r_iconst 1 (by decide) 753 rfl dL_law_752 ?_
        refine r_iadd 754 rfl dL_law_753 ?_
        refine r_sld rfl 755 rfl dL_law_754 ?_
        refine r_calli (c_X7_quarrel E   _ _) rfl sh_67 rfl ml_L_94 cw_X7_quarrel vw_X7_quarrel (by decide) (Nat.le_of_ble_eq_true rfl) 758 rfl dL_law_755 (fun r80 σ80 => ?_)
        refine r_icmp_eq 1355 761 rfl (by decide) dL_law_758 (fun c81 => ?_) (fun c81 => ?_)
        · exact r_sub [0, 1, 2, 3] rfl (gj_L_law_1355 E   _ (fun x3  σ => ih x3  σ) _  _)
        · refine r_iconst 0 (by decide) 762 rfl dL_law_761 ?_
          exact r_zret rfl (Or.inl rfl) dL_law_762
      refine r_split (fun c82 => ?_) (fun c82 => ?_)
      · refine r_tin 19 c82 731 763 (by decide) (by decide) (by decide) (by decide) dL_law_32 ?_
        refine r_aload_n 1 rfl rfl 764 rfl dL_law_763 ?_
        refine r_calli (c_X6_alone E    _) rfl sh_0 rfl ml_L_95 cw_X6_alone vw_X6_alone (by decide) (Nat.le_of_ble_eq_true rfl) 767 rfl dL_law_764 (fun r83 σ83 => ?_)
        refine r_aload_n 2 rfl rfl 768 rfl dL_law_767 ?_
        refine r_calli (c_X7_alone E    _) rfl sh_67 rfl ml_L_98 cw_X7_alone vw_X7_alone (by decide) (Nat.le_of_ble_eq_true rfl) 771 rfl dL_law_768 (fun r84 σ84 => ?_)
        refine r_icmp_eq 1355 774 rfl (by decide) dL_law_771 (fun c85 => ?_) (fun c85 => ?_)
        · exact r_sub [0, 1, 2, 3] rfl (gj_L_law_1355 E   _ (fun x3  σ => ih x3  σ) _  _)
        · refine r_iconst 0 (by decide) 775 rfl dL_law_774 ?_
          exact r_zret rfl (Or.inl rfl) dL_law_775
      refine r_split (fun c86 => ?_) (fun c86 => ?_)
      · refine r_tin 20 c86 744 776 (by decide) (by decide) (by decide) (by decide) dL_law_32 ?_
        refine r_aload_n 1 rfl rfl 777 rfl dL_law_776 ?_
        refine r_aload_n 0 rfl rfl 778 rfl dL_law_777 ?_
        refine r_iload_n 3 rfl rfl 779 rfl dL_law_778 ?_
        refine r_iconst 1 (by decide) 780 rfl dL_law_779 ?_
        refine r_iadd 781 rfl dL_law_780 ?_
        refine r_sld rfl 782 rfl dL_law_781 ?_
        refine r_calli (c_X6_years E   _ _) rfl sh_0 rfl ml_L_99 cw_X6_years vw_X6_years (by decide) (Nat.le_of_ble_eq_true rfl) 785 rfl dL_law_782 (fun r87 σ87 => ?_)
        refine r_aload_n 2 rfl rfl 786 rfl dL_law_785 ?_
        refine r_aload_n 0 rfl rfl 787 rfl dL_law_786 ?_
        refine r_iload_n 3 rfl rfl 788 rfl dL_law_787 ?_
        refine r_iconst 1 (by decide) 789 rfl dL_law_788 ?_
        refine r_iadd 790 rfl dL_law_789 ?_
        refine r_sld rfl 791 rfl dL_law_790 ?_
        refine r_calli (c_X7_years E   _ _) rfl sh_67 rfl ml_L_102 cw_X7_years vw_X7_years (by decide) (Nat.le_of_ble_eq_true rfl) 794 rfl dL_law_791 (fun r88 σ88 => ?_)
        refine r_icmp_eq 1355 797 rfl (by decide) dL_law_794 (fun c89 => ?_) (fun c89 => ?_)
        · exact r_sub [0, 1, 2, 3] rfl (gj_L_law_1355 E   _ (fun x3  σ => ih x3  σ) _  _)
        · refine r_iconst 0 (by decide) 798 rfl dL_law_797 ?_
          exact r_zret rfl (Or.inl rfl) dL_law_798
      refine r_split (fun c90 => ?_) (fun c90 => ?_)
      · refine r_tin 21 c90 767 799 (by decide) (by decide) (by decide) (by decide) dL_law_32 ?_
        refine r_aload_n 1 rfl rfl 800 rfl dL_law_799 ?_
        refine r_calli (c_X6_alike E    _) rfl sh_0 rfl ml_L_103 cw_X6_alike vw_X6_alike (by decide) (Nat.le_of_ble_eq_true rfl) 803 rfl dL_law_800 (fun r91 σ91 => ?_)
        refine r_aload_n 2 rfl rfl 804 rfl dL_law_803 ?_
        refine r_calli (c_X7_alike E    _) rfl sh_67 rfl ml_L_106 cw_X7_alike vw_X7_alike (by decide) (Nat.le_of_ble_eq_true rfl) 807 rfl dL_law_804 (fun r92 σ92 => ?_)
        refine r_icmp_eq 1355 810 rfl (by decide) dL_law_807 (fun c93 => ?_) (fun c93 => ?_)
        · exact r_sub [0, 1, 2, 3] rfl (gj_L_law_1355 E   _ (fun x3  σ => ih x3  σ) _  _)
        · refine r_iconst 0 (by decide) 811 rfl dL_law_810 ?_
          exact r_zret rfl (Or.inl rfl) dL_law_811
      refine r_split (fun c94 => ?_) (fun c94 => ?_)
      · refine r_tin 22 c94 780 812 (by decide) (by decide) (by decide) (by decide) dL_law_32 ?_
        refine r_aload_n 1 rfl rfl 813 rfl dL_law_812 ?_
        refine r_aload_n 0 rfl rfl 814 rfl dL_law_813 ?_
        refine r_iload_n 3 rfl rfl 815 rfl dL_law_814 ?_
        refine r_iconst 1 (by decide) 816 rfl dL_law_815 ?_
        refine r_iadd 817 rfl dL_law_816 ?_
        refine r_sld rfl 818 rfl dL_law_817 ?_
        refine r_calli (c_X6_near E   _ _) rfl sh_0 rfl ml_L_107 cw_X6_near vw_X6_near (by decide) (Nat.le_of_ble_eq_true rfl) 821 rfl dL_law_818 (fun r95 σ95 => ?_)
        refine r_aload_n 2 rfl rfl 822 rfl dL_law_821 ?_
        refine r_aload_n 0 rfl rfl 823 rfl dL_law_822 ?_
        refine r_iload_n 3 rfl rfl 824 rfl dL_law_823 ?_
        refine r_iconst 1 (by decide) 825 rfl dL_law_824 ?_
        refine r_iadd 826 rfl dL_law_825 ?_
        refine r_sld rfl 827 rfl dL_law_826 ?_
        refine r_calli (c_X7_near E   _ _) rfl sh_67 rfl ml_L_110 cw_X7_near vw_X7_near (by decide) (Nat.le_of_ble_eq_true rfl) 830 rfl dL_law_827 (fun r96 σ96 => ?_)
        refine r_icmp_eq 1355 833 rfl (by decide) dL_law_830 (fun c97 => ?_) (fun c97 => ?_)
        · exact r_sub [0, 1, 2, 3] rfl (gj_L_law_1355 E   _ (fun x3  σ => ih x3  σ) _  _)
        · refine r_iconst 0 (by decide) 834 rfl dL_law_833 ?_
          exact r_zret rfl (Or.inl rfl) dL_law_834
      refine r_split (fun c98 => ?_) (fun c98 => ?_)
      · refine r_tin 23 c98 803 835 (by decide) (by decide) (by decide) (by decide) dL_law_32 ?_
        refine r_aload_n 1 rfl rfl 836 rfl dL_law_835 ?_
        refine r_aload_n 0 rfl rfl 837 rfl dL_law_836 ?_
        refine r_iload_n 3 rfl rfl 838 rfl dL_law_837 ?_
        refine r_iconst 1 (by decide) 839 rfl dL_law_838 ?_
        refine r_iadd 840 rfl dL_law_839 ?_
        refine r_sld rfl 841 rfl dL_law_840 ?_
        refine r_aload_n 0 rfl rfl 842 rfl dL_law_841 ?_
        refine r_iload_n 3 rfl rfl 843 rfl dL_law_842 ?_
        refine r_iconst 2 (by decide) 844 rfl dL_law_843 ?_
        refine r_iadd 845 rfl dL_law_844 ?_
        refine r_sld rfl 846 rfl dL_law_845 ?_
        refine r_calli (c_X6_forge E   _ _ _) rfl sh_0 rfl ml_L_111 cw_X6_forge vw_X6_forge (by decide) (Nat.le_of_ble_eq_true rfl) 849 rfl dL_law_846 (fun r99 σ99 => ?_)
        refine r_aload_n 2 rfl rfl 850 rfl dL_law_849 ?_
        refine r_aload_n 0 rfl rfl 851 rfl dL_law_850 ?_
        refine r_iload_n 3 rfl rfl 852 rfl dL_law_851 ?_
        refine r_iconst 1 (by decide) 853 rfl dL_law_852 ?_
        refine r_iadd 854 rfl dL_law_853 ?_
        refine r_sld rfl 855 rfl dL_law_854 ?_
        refine r_aload_n 0 rfl rfl 856 rfl dL_law_855 ?_
        refine r_iload_n 3 rfl rfl 857 rfl dL_law_856 ?_
        refine r_iconst 2 (by decide) 858 rfl dL_law_857 ?_
        refine r_iadd 859 rfl dL_law_858 ?_
        refine r_sld rfl 860 rfl dL_law_859 ?_
        refine r_calli (c_X7_forge E   _ _ _) rfl sh_67 rfl ml_L_114 cw_X7_forge vw_X7_forge (by decide) (Nat.le_of_ble_eq_true rfl) 863 rfl dL_law_860 (fun r100 σ100 => ?_)
        refine r_icmp_eq 1355 866 rfl (by decide) dL_law_863 (fun c101 => ?_) (fun c101 => ?_)
        · exact r_sub [0, 1, 2, 3] rfl (gj_L_law_1355 E   _ (fun x3  σ => ih x3  σ) _  _)
        · refine r_iconst 0 (by decide) 867 rfl dL_law_866 ?_
          exact r_zret rfl (Or.inl rfl) dL_law_867
      refine r_split (fun c102 => ?_) (fun c102 => ?_)
      · refine r_tin 24 c102 836 868 (by decide) (by decide) (by decide) (by decide) dL_law_32 ?_
        refine r_aload_n 1 rfl rfl 869 rfl dL_law_868 ?_
        refine r_aload_n 0 rfl rfl 870 rfl dL_law_869 ?_
        refine r_iload_n 3 rfl rfl 871 rfl dL_law_870 ?_
        refine r_iconst 1 (by decide) 872 rfl dL_law_871 ?_
        refine r_iadd 873 rfl dL_law_872 ?_
        refine r_sld rfl 874 rfl dL_law_873 ?_
        refine r_calli (c_X6_swap E   _ _) rfl sh_0 rfl ml_L_115 cw_X6_swap vw_X6_swap (by decide) (Nat.le_of_ble_eq_true rfl) 877 rfl dL_law_874 (fun r103 σ103 => ?_)
        refine r_aload_n 2 rfl rfl 878 rfl dL_law_877 ?_
        refine r_aload_n 0 rfl rfl 879 rfl dL_law_878 ?_
        refine r_iload_n 3 rfl rfl 880 rfl dL_law_879 ?_
        refine r_iconst 1 (by decide) 881 rfl dL_law_880 ?_
        refine r_iadd 882 rfl dL_law_881 ?_
        refine r_sld rfl 883 rfl dL_law_882 ?_
        refine r_calli (c_X7_swap E   _ _) rfl sh_67 rfl ml_L_118 cw_X7_swap vw_X7_swap (by decide) (Nat.le_of_ble_eq_true rfl) 886 rfl dL_law_883 (fun r104 σ104 => ?_)
        refine r_icmp_eq 1355 889 rfl (by decide) dL_law_886 (fun c105 => ?_) (fun c105 => ?_)
        · exact r_sub [0, 1, 2, 3] rfl (gj_L_law_1355 E   _ (fun x3  σ => ih x3  σ) _  _)
        · refine r_iconst 0 (by decide) 890 rfl dL_law_889 ?_
          exact r_zret rfl (Or.inl rfl) dL_law_890
      refine r_split (fun c106 => ?_) (fun c106 => ?_)
      · refine r_tin 25 c106 859 891 (by decide) (by decide) (by decide) (by decide) dL_law_32 ?_
        refine r_aload_n 1 rfl rfl 892 rfl dL_law_891 ?_
        refine r_aload_n 0 rfl rfl 893 rfl dL_law_892 ?_
        refine r_iload_n 3 rfl rfl 894 rfl dL_law_893 ?_
        refine r_iconst 1 (by decide) 895 rfl dL_law_894 ?_
        refine r_iadd 896 rfl dL_law_895 ?_
        refine r_sld rfl 897 rfl dL_law_896 ?_
        refine r_aload_n 0 rfl rfl 898 rfl dL_law_897 ?_
        refine r_iload_n 3 rfl rfl 899 rfl dL_law_898 ?_
        refine r_iconst 2 (by decide) 900 rfl dL_law_899 ?_
        refine r_iadd 901 rfl dL_law_900 ?_
        refine r_sld rfl 902 rfl dL_law_901 ?_
        refine r_calll (c_X6_mean E   _ _ _) rfl sh_0 rfl ml_L_119 cw_X6_mean vw_X6_mean (by decide) (Nat.le_of_ble_eq_true rfl) 905 rfl dL_law_902 (fun r107 σ107 => ?_)
        refine r_aload_n 2 rfl rfl 906 rfl dL_law_905 ?_
        refine r_aload_n 0 rfl rfl 907 rfl dL_law_906 ?_
        refine r_iload_n 3 rfl rfl 908 rfl dL_law_907 ?_
        refine r_iconst 1 (by decide) 909 rfl dL_law_908 ?_
        refine r_iadd 910 rfl dL_law_909 ?_
        refine r_sld rfl 911 rfl dL_law_910 ?_
        refine r_aload_n 0 rfl rfl 912 rfl dL_law_911 ?_
        refine r_iload_n 3 rfl rfl 913 rfl dL_law_912 ?_
        refine r_iconst 2 (by decide) 914 rfl dL_law_913 ?_
        refine r_iadd 915 rfl dL_law_914 ?_
        refine r_sld rfl 916 rfl dL_law_915 ?_
        refine r_calll (c_X7_mean E   _ _ _) rfl sh_67 rfl ml_L_123 cw_X7_mean vw_X7_mean (by decide) (Nat.le_of_ble_eq_true rfl) 919 rfl dL_law_916 (fun r108 σ108 => ?_)
        refine r_lcmp 920 rfl dL_law_919 ?_
        refine r_if_eq 1355 923 rfl (by decide) dL_law_920 (fun c109 => ?_) (fun c109 => ?_)
        · exact r_sub [0, 1, 2, 3] rfl (gj_L_law_1355 E   _ (fun x3  σ => ih x3  σ) _  _)
        · refine r_iconst 0 (by decide) 924 rfl dL_law_923 ?_
          exact r_zret rfl (Or.inl rfl) dL_law_924
      refine r_split (fun c110 => ?_) (fun c110 => ?_)
      · refine r_tin 26 c110 893 925 (by decide) (by decide) (by decide) (by decide) dL_law_32 ?_
        refine r_aload_n 1 rfl rfl 926 rfl dL_law_925 ?_
        refine r_aload_n 0 rfl rfl 927 rfl dL_law_926 ?_
        refine r_iload_n 3 rfl rfl 928 rfl dL_law_927 ?_
        refine r_iconst 1 (by decide) 929 rfl dL_law_928 ?_
        refine r_iadd 930 rfl dL_law_929 ?_
        refine r_sld rfl 931 rfl dL_law_930 ?_
        refine r_aload_n 0 rfl rfl 932 rfl dL_law_931 ?_
        refine r_iload_n 3 rfl rfl 933 rfl dL_law_932 ?_
        refine r_iconst 2 (by decide) 934 rfl dL_law_933 ?_
        refine r_iadd 935 rfl dL_law_934 ?_
        refine r_sld rfl 936 rfl dL_law_935 ?_
        refine r_aload_n 0 rfl rfl 937 rfl dL_law_936 ?_
        refine r_iload_n 3 rfl rfl 938 rfl dL_law_937 ?_
        refine r_iconst 3 (by decide) 939 rfl dL_law_938 ?_
        refine r_iadd 940 rfl dL_law_939 ?_
        refine r_sld rfl 941 rfl dL_law_940 ?_
        refine r_calll (c_X6_luck E   _ _ _ _) rfl sh_0 rfl ml_L_124 cw_X6_luck vw_X6_luck (by decide) (Nat.le_of_ble_eq_true rfl) 944 rfl dL_law_941 (fun r111 σ111 => ?_)
        refine r_aload_n 2 rfl rfl 945 rfl dL_law_944 ?_
        refine r_aload_n 0 rfl rfl 946 rfl dL_law_945 ?_
        refine r_iload_n 3 rfl rfl 947 rfl dL_law_946 ?_
        refine r_iconst 1 (by decide) 948 rfl dL_law_947 ?_
        refine r_iadd 949 rfl dL_law_948 ?_
        refine r_sld rfl 950 rfl dL_law_949 ?_
        refine r_aload_n 0 rfl rfl 951 rfl dL_law_950 ?_
        refine r_iload_n 3 rfl rfl 952 rfl dL_law_951 ?_
        refine r_iconst 2 (by decide) 953 rfl dL_law_952 ?_
        refine r_iadd 954 rfl dL_law_953 ?_
        refine r_sld rfl 955 rfl dL_law_954 ?_
        refine r_aload_n 0 rfl rfl 956 rfl dL_law_955 ?_
        refine r_iload_n 3 rfl rfl 957 rfl dL_law_956 ?_
        refine r_iconst 3 (by decide) 958 rfl dL_law_957 ?_
        refine r_iadd 959 rfl dL_law_958 ?_
        refine r_sld rfl 960 rfl dL_law_959 ?_
        refine r_calll (c_X7_luck E   _ _ _ _) rfl sh_67 rfl ml_L_128 cw_X7_luck vw_X7_luck (by decide) (Nat.le_of_ble_eq_true rfl) 963 rfl dL_law_960 (fun r112 σ112 => ?_)
        refine r_lcmp 964 rfl dL_law_963 ?_
        refine r_if_eq 1355 967 rfl (by decide) dL_law_964 (fun c113 => ?_) (fun c113 => ?_)
        · exact r_sub [0, 1, 2, 3] rfl (gj_L_law_1355 E   _ (fun x3  σ => ih x3  σ) _  _)
        · refine r_iconst 0 (by decide) 968 rfl dL_law_967 ?_
          exact r_zret rfl (Or.inl rfl) dL_law_968
      refine r_split (fun c114 => ?_) (fun c114 => ?_)
      · refine r_tin 27 c114 937 969 (by decide) (by decide) (by decide) (by decide) dL_law_32 ?_
        refine r_aload_n 1 rfl rfl 970 rfl dL_law_969 ?_
        refine r_aload_n 0 rfl rfl 971 rfl dL_law_970 ?_
        refine r_iload_n 3 rfl rfl 972 rfl dL_law_971 ?_
        refine r_iconst 1 (by decide) 973 rfl dL_law_972 ?_
        refine r_iadd 974 rfl dL_law_973 ?_
        refine r_sld rfl 975 rfl dL_law_974 ?_
        refine r_aload_n 0 rfl rfl 976 rfl dL_law_975 ?_
        refine r_iload_n 3 rfl rfl 977 rfl dL_law_976 ?_
        refine r_iconst 2 (by decide) 978 rfl dL_law_977 ?_
        refine r_iadd 979 rfl dL_law_978 ?_
        refine r_sld rfl 980 rfl dL_law_979 ?_
        refine r_aload_n 0 rfl rfl 981 rfl dL_law_980 ?_
        refine r_iload_n 3 rfl rfl 982 rfl dL_law_981 ?_
        refine r_iconst 3 (by decide) 983 rfl dL_law_982 ?_
        refine r_iadd 984 rfl dL_law_983 ?_
        refine r_sld rfl 985 rfl dL_law_984 ?_
        refine r_calli (c_X6_see E   _ _ _ _) rfl sh_0 rfl ml_L_129 cw_X6_see vw_X6_see (by decide) (Nat.le_of_ble_eq_true rfl) 988 rfl dL_law_985 (fun r115 σ115 => ?_)
        refine r_aload_n 2 rfl rfl 989 rfl dL_law_988 ?_
        refine r_aload_n 0 rfl rfl 990 rfl dL_law_989 ?_
        refine r_iload_n 3 rfl rfl 991 rfl dL_law_990 ?_
        refine r_iconst 1 (by decide) 992 rfl dL_law_991 ?_
        refine r_iadd 993 rfl dL_law_992 ?_
        refine r_sld rfl 994 rfl dL_law_993 ?_
        refine r_aload_n 0 rfl rfl 995 rfl dL_law_994 ?_
        refine r_iload_n 3 rfl rfl 996 rfl dL_law_995 ?_
        refine r_iconst 2 (by decide) 997 rfl dL_law_996 ?_
        refine r_iadd 998 rfl dL_law_997 ?_
        refine r_sld rfl 999 rfl dL_law_998 ?_
        refine r_aload_n 0 rfl rfl 1000 rfl dL_law_999 ?_
        refine r_iload_n 3 rfl rfl 1001 rfl dL_law_1000 ?_
        refine r_iconst 3 (by decide) 1002 rfl dL_law_1001 ?_
        refine r_iadd 1003 rfl dL_law_1002 ?_
        refine r_sld rfl 1004 rfl dL_law_1003 ?_
        refine r_calli (c_X7_see E   _ _ _ _) rfl sh_67 rfl ml_L_132 cw_X7_see vw_X7_see (by decide) (Nat.le_of_ble_eq_true rfl) 1007 rfl dL_law_1004 (fun r116 σ116 => ?_)
        refine r_icmp_eq 1355 1010 rfl (by decide) dL_law_1007 (fun c117 => ?_) (fun c117 => ?_)
        · exact r_sub [0, 1, 2, 3] rfl (gj_L_law_1355 E   _ (fun x3  σ => ih x3  σ) _  _)
        · refine r_iconst 0 (by decide) 1011 rfl dL_law_1010 ?_
          exact r_zret rfl (Or.inl rfl) dL_law_1011
      refine r_split (fun c118 => ?_) (fun c118 => ?_)
      · refine r_tin 28 c118 980 1012 (by decide) (by decide) (by decide) (by decide) dL_law_32 ?_
        refine r_aload_n 1 rfl rfl 1013 rfl dL_law_1012 ?_
        refine r_aload_n 0 rfl rfl 1014 rfl dL_law_1013 ?_
        refine r_iload_n 3 rfl rfl 1015 rfl dL_law_1014 ?_
        refine r_iconst 1 (by decide) 1016 rfl dL_law_1015 ?_
        refine r_iadd 1017 rfl dL_law_1016 ?_
        refine r_sld rfl 1018 rfl dL_law_1017 ?_
        refine r_calli (c_X6_forget E   _ _) rfl sh_0 rfl ml_L_133 cw_X6_forget vw_X6_forget (by decide) (Nat.le_of_ble_eq_true rfl) 1021 rfl dL_law_1018 (fun r119 σ119 => ?_)
        refine r_aload_n 2 rfl rfl 1022 rfl dL_law_1021 ?_
        refine r_aload_n 0 rfl rfl 1023 rfl dL_law_1022 ?_
        refine r_iload_n 3 rfl rfl 1024 rfl dL_law_1023 ?_
        refine r_iconst 1 (by decide) 1025 rfl dL_law_1024 ?_
        refine r_iadd 1026 rfl dL_law_1025 ?_
        refine r_sld rfl 1027 rfl dL_law_1026 ?_
        refine r_calli (c_X7_forget E   _ _) rfl sh_67 rfl ml_L_136 cw_X7_forget vw_X7_forget (by decide) (Nat.le_of_ble_eq_true rfl) 1030 rfl dL_law_1027 (fun r120 σ120 => ?_)
        refine r_icmp_eq 1355 1033 rfl (by decide) dL_law_1030 (fun c121 => ?_) (fun c121 => ?_)
        · exact r_sub [0, 1, 2, 3] rfl (gj_L_law_1355 E   _ (fun x3  σ => ih x3  σ) _  _)
        · refine r_iconst 0 (by decide) 1034 rfl dL_law_1033 ?_
          exact r_zret rfl (Or.inl rfl) dL_law_1034
      refine r_split (fun c122 => ?_) (fun c122 => ?_)
      · refine r_tin 29 c122 1003 1035 (by decide) (by decide) (by decide) (by decide) dL_law_32 ?_
        refine r_aload_n 1 rfl rfl 1036 rfl dL_law_1035 ?_
        refine r_aload_n 0 rfl rfl 1037 rfl dL_law_1036 ?_
        refine r_iload_n 3 rfl rfl 1038 rfl dL_law_1037 ?_
        refine r_iconst 1 (by decide) 1039 rfl dL_law_1038 ?_
        refine r_iadd 1040 rfl dL_law_1039 ?_
        refine r_sld rfl 1041 rfl dL_law_1040 ?_
        refine r_calli (c_X6_fits E   _ _) rfl sh_0 rfl ml_L_137 cw_X6_fits vw_X6_fits (by decide) (Nat.le_of_ble_eq_true rfl) 1044 rfl dL_law_1041 (fun r123 σ123 => ?_)
        refine r_aload_n 2 rfl rfl 1045 rfl dL_law_1044 ?_
        refine r_aload_n 0 rfl rfl 1046 rfl dL_law_1045 ?_
        refine r_iload_n 3 rfl rfl 1047 rfl dL_law_1046 ?_
        refine r_iconst 1 (by decide) 1048 rfl dL_law_1047 ?_
        refine r_iadd 1049 rfl dL_law_1048 ?_
        refine r_sld rfl 1050 rfl dL_law_1049 ?_
        refine r_calli (c_X7_fits E   _ _) rfl sh_67 rfl ml_L_140 cw_X7_fits vw_X7_fits (by decide) (Nat.le_of_ble_eq_true rfl) 1053 rfl dL_law_1050 (fun r124 σ124 => ?_)
        refine r_icmp_eq 1355 1056 rfl (by decide) dL_law_1053 (fun c125 => ?_) (fun c125 => ?_)
        · exact r_sub [0, 1, 2, 3] rfl (gj_L_law_1355 E   _ (fun x3  σ => ih x3  σ) _  _)
        · refine r_iconst 0 (by decide) 1057 rfl dL_law_1056 ?_
          exact r_zret rfl (Or.inl rfl) dL_law_1057
      refine r_split (fun c126 => ?_) (fun c126 => ?_)
      · refine r_tin 30 c126 1026 1058 (by decide) (by decide) (by decide) (by decide) dL_law_32 ?_
        refine r_aload_n 1 rfl rfl 1059 rfl dL_law_1058 ?_
        refine r_aload_n 0 rfl rfl 1060 rfl dL_law_1059 ?_
        refine r_iload_n 3 rfl rfl 1061 rfl dL_law_1060 ?_
        refine r_iconst 1 (by decide) 1062 rfl dL_law_1061 ?_
        refine r_iadd 1063 rfl dL_law_1062 ?_
        refine r_sld rfl 1064 rfl dL_law_1063 ?_
        refine r_aload_n 0 rfl rfl 1065 rfl dL_law_1064 ?_
        refine r_iload_n 3 rfl rfl 1066 rfl dL_law_1065 ?_
        refine r_iconst 2 (by decide) 1067 rfl dL_law_1066 ?_
        refine r_iadd 1068 rfl dL_law_1067 ?_
        refine r_sld rfl 1069 rfl dL_law_1068 ?_
        refine r_calli (c_X6_look E   _ _ _) rfl sh_0 rfl ml_L_141 cw_X6_look vw_X6_look (by decide) (Nat.le_of_ble_eq_true rfl) 1072 rfl dL_law_1069 (fun r127 σ127 => ?_)
        refine r_aload_n 2 rfl rfl 1073 rfl dL_law_1072 ?_
        refine r_aload_n 0 rfl rfl 1074 rfl dL_law_1073 ?_
        refine r_iload_n 3 rfl rfl 1075 rfl dL_law_1074 ?_
        refine r_iconst 1 (by decide) 1076 rfl dL_law_1075 ?_
        refine r_iadd 1077 rfl dL_law_1076 ?_
        refine r_sld rfl 1078 rfl dL_law_1077 ?_
        refine r_aload_n 0 rfl rfl 1079 rfl dL_law_1078 ?_
        refine r_iload_n 3 rfl rfl 1080 rfl dL_law_1079 ?_
        refine r_iconst 2 (by decide) 1081 rfl dL_law_1080 ?_
        refine r_iadd 1082 rfl dL_law_1081 ?_
        refine r_sld rfl 1083 rfl dL_law_1082 ?_
        refine r_calli (c_X7_look E   _ _ _) rfl sh_67 rfl ml_L_144 cw_X7_look vw_X7_look (by decide) (Nat.le_of_ble_eq_true rfl) 1086 rfl dL_law_1083 (fun r128 σ128 => ?_)
        refine r_icmp_eq 1355 1089 rfl (by decide) dL_law_1086 (fun c129 => ?_) (fun c129 => ?_)
        · exact r_sub [0, 1, 2, 3] rfl (gj_L_law_1355 E   _ (fun x3  σ => ih x3  σ) _  _)
        · refine r_iconst 0 (by decide) 1090 rfl dL_law_1089 ?_
          exact r_zret rfl (Or.inl rfl) dL_law_1090
      refine r_split (fun c130 => ?_) (fun c130 => ?_)
      · refine r_tin 31 c130 1059 1091 (by decide) (by decide) (by decide) (by decide) dL_law_32 ?_
        refine r_aload_n 1 rfl rfl 1092 rfl dL_law_1091 ?_
        refine r_aload_n 0 rfl rfl 1093 rfl dL_law_1092 ?_
        refine r_iload_n 3 rfl rfl 1094 rfl dL_law_1093 ?_
        refine r_iconst 1 (by decide) 1095 rfl dL_law_1094 ?_
        refine r_iadd 1096 rfl dL_law_1095 ?_
        refine r_sld rfl 1097 rfl dL_law_1096 ?_
        refine r_aload_n 0 rfl rfl 1098 rfl dL_law_1097 ?_
        refine r_iload_n 3 rfl rfl 1099 rfl dL_law_1098 ?_
        refine r_iconst 2 (by decide) 1100 rfl dL_law_1099 ?_
        refine r_iadd 1101 rfl dL_law_1100 ?_
        refine r_sld rfl 1102 rfl dL_law_1101 ?_
        refine r_aload_n 0 rfl rfl 1103 rfl dL_law_1102 ?_
        refine r_iload_n 3 rfl rfl 1104 rfl dL_law_1103 ?_
        refine r_iconst 3 (by decide) 1105 rfl dL_law_1104 ?_
        refine r_iadd 1106 rfl dL_law_1105 ?_
        refine r_sld rfl 1107 rfl dL_law_1106 ?_
        refine r_calli (c_X6_drift E   _ _ _ _) rfl sh_0 rfl ml_L_145 cw_X6_drift vw_X6_drift (by decide) (Nat.le_of_ble_eq_true rfl) 1110 rfl dL_law_1107 (fun r131 σ131 => ?_)
        refine r_aload_n 2 rfl rfl 1111 rfl dL_law_1110 ?_
        refine r_aload_n 0 rfl rfl 1112 rfl dL_law_1111 ?_
        refine r_iload_n 3 rfl rfl 1113 rfl dL_law_1112 ?_
        refine r_iconst 1 (by decide) 1114 rfl dL_law_1113 ?_
        refine r_iadd 1115 rfl dL_law_1114 ?_
        refine r_sld rfl 1116 rfl dL_law_1115 ?_
        refine r_aload_n 0 rfl rfl 1117 rfl dL_law_1116 ?_
        refine r_iload_n 3 rfl rfl 1118 rfl dL_law_1117 ?_
        refine r_iconst 2 (by decide) 1119 rfl dL_law_1118 ?_
        refine r_iadd 1120 rfl dL_law_1119 ?_
        refine r_sld rfl 1121 rfl dL_law_1120 ?_
        refine r_aload_n 0 rfl rfl 1122 rfl dL_law_1121 ?_
        refine r_iload_n 3 rfl rfl 1123 rfl dL_law_1122 ?_
        refine r_iconst 3 (by decide) 1124 rfl dL_law_1123 ?_
        refine r_iadd 1125 rfl dL_law_1124 ?_
        refine r_sld rfl 1126 rfl dL_law_1125 ?_
        refine r_calli (c_X7_drift E   _ _ _ _) rfl sh_67 rfl ml_L_148 cw_X7_drift vw_X7_drift (by decide) (Nat.le_of_ble_eq_true rfl) 1129 rfl dL_law_1126 (fun r132 σ132 => ?_)
        refine r_icmp_eq 1355 1132 rfl (by decide) dL_law_1129 (fun c133 => ?_) (fun c133 => ?_)
        · exact r_sub [0, 1, 2, 3] rfl (gj_L_law_1355 E   _ (fun x3  σ => ih x3  σ) _  _)
        · refine r_iconst 0 (by decide) 1133 rfl dL_law_1132 ?_
          exact r_zret rfl (Or.inl rfl) dL_law_1133
      refine r_split (fun c134 => ?_) (fun c134 => ?_)
      · refine r_tin 32 c134 1102 1134 (by decide) (by decide) (by decide) (by decide) dL_law_32 ?_
        refine r_aload_n 1 rfl rfl 1135 rfl dL_law_1134 ?_
        refine r_aload_n 0 rfl rfl 1136 rfl dL_law_1135 ?_
        refine r_iload_n 3 rfl rfl 1137 rfl dL_law_1136 ?_
        refine r_iconst 1 (by decide) 1138 rfl dL_law_1137 ?_
        refine r_iadd 1139 rfl dL_law_1138 ?_
        refine r_sld rfl 1140 rfl dL_law_1139 ?_
        refine r_calli (c_X6_keep E   _ _) rfl sh_0 rfl ml_L_149 cw_X6_keep vw_X6_keep (by decide) (Nat.le_of_ble_eq_true rfl) 1143 rfl dL_law_1140 (fun r135 σ135 => ?_)
        refine r_aload_n 2 rfl rfl 1144 rfl dL_law_1143 ?_
        refine r_aload_n 0 rfl rfl 1145 rfl dL_law_1144 ?_
        refine r_iload_n 3 rfl rfl 1146 rfl dL_law_1145 ?_
        refine r_iconst 1 (by decide) 1147 rfl dL_law_1146 ?_
        refine r_iadd 1148 rfl dL_law_1147 ?_
        refine r_sld rfl 1149 rfl dL_law_1148 ?_
        refine r_calli (c_X7_keep E   _ _) rfl sh_67 rfl ml_L_152 cw_X7_keep vw_X7_keep (by decide) (Nat.le_of_ble_eq_true rfl) 1152 rfl dL_law_1149 (fun r136 σ136 => ?_)
        refine r_icmp_eq 1355 1155 rfl (by decide) dL_law_1152 (fun c137 => ?_) (fun c137 => ?_)
        · exact r_sub [0, 1, 2, 3] rfl (gj_L_law_1355 E   _ (fun x3  σ => ih x3  σ) _  _)
        · refine r_iconst 0 (by decide) 1156 rfl dL_law_1155 ?_
          exact r_zret rfl (Or.inl rfl) dL_law_1156
      refine r_split (fun c138 => ?_) (fun c138 => ?_)
      · refine r_tin 33 c138 1125 1157 (by decide) (by decide) (by decide) (by decide) dL_law_32 ?_
        refine r_aload_n 1 rfl rfl 1158 rfl dL_law_1157 ?_
        refine r_aload_n 0 rfl rfl 1159 rfl dL_law_1158 ?_
        refine r_iload_n 3 rfl rfl 1160 rfl dL_law_1159 ?_
        refine r_iconst 1 (by decide) 1161 rfl dL_law_1160 ?_
        refine r_iadd 1162 rfl dL_law_1161 ?_
        refine r_sld rfl 1163 rfl dL_law_1162 ?_
        refine r_calli (c_X6_back E   _ _) rfl sh_0 rfl ml_L_153 cw_X6_back vw_X6_back (by decide) (Nat.le_of_ble_eq_true rfl) 1166 rfl dL_law_1163 (fun r139 σ139 => ?_)
        refine r_aload_n 2 rfl rfl 1167 rfl dL_law_1166 ?_
        refine r_aload_n 0 rfl rfl 1168 rfl dL_law_1167 ?_
        refine r_iload_n 3 rfl rfl 1169 rfl dL_law_1168 ?_
        refine r_iconst 1 (by decide) 1170 rfl dL_law_1169 ?_
        refine r_iadd 1171 rfl dL_law_1170 ?_
        refine r_sld rfl 1172 rfl dL_law_1171 ?_
        refine r_calli (c_X7_back E   _ _) rfl sh_67 rfl ml_L_156 cw_X7_back vw_X7_back (by decide) (Nat.le_of_ble_eq_true rfl) 1175 rfl dL_law_1172 (fun r140 σ140 => ?_)
        refine r_icmp_eq 1355 1178 rfl (by decide) dL_law_1175 (fun c141 => ?_) (fun c141 => ?_)
        · exact r_sub [0, 1, 2, 3] rfl (gj_L_law_1355 E   _ (fun x3  σ => ih x3  σ) _  _)
        · refine r_iconst 0 (by decide) 1179 rfl dL_law_1178 ?_
          exact r_zret rfl (Or.inl rfl) dL_law_1179
      refine r_split (fun c142 => ?_) (fun c142 => ?_)
      · refine r_tin 34 c142 1148 1180 (by decide) (by decide) (by decide) (by decide) dL_law_32 ?_
        refine r_aload_n 1 rfl rfl 1181 rfl dL_law_1180 ?_
        refine r_aload_n 0 rfl rfl 1182 rfl dL_law_1181 ?_
        refine r_iload_n 3 rfl rfl 1183 rfl dL_law_1182 ?_
        refine r_iconst 1 (by decide) 1184 rfl dL_law_1183 ?_
        refine r_iadd 1185 rfl dL_law_1184 ?_
        refine r_sld rfl 1186 rfl dL_law_1185 ?_
        refine r_aload_n 0 rfl rfl 1187 rfl dL_law_1186 ?_
        refine r_iload_n 3 rfl rfl 1188 rfl dL_law_1187 ?_
        refine r_iconst 2 (by decide) 1189 rfl dL_law_1188 ?_
        refine r_iadd 1190 rfl dL_law_1189 ?_
        refine r_sld rfl 1191 rfl dL_law_1190 ?_
        refine r_aload_n 0 rfl rfl 1192 rfl dL_law_1191 ?_
        refine r_iload_n 3 rfl rfl 1193 rfl dL_law_1192 ?_
        refine r_iconst 3 (by decide) 1194 rfl dL_law_1193 ?_
        refine r_iadd 1195 rfl dL_law_1194 ?_
        refine r_sld rfl 1196 rfl dL_law_1195 ?_
        refine r_calli (c_X6_sheet E   _ _ _ _) rfl sh_0 rfl ml_L_157 cw_X6_sheet vw_X6_sheet (by decide) (Nat.le_of_ble_eq_true rfl) 1199 rfl dL_law_1196 (fun r143 σ143 => ?_)
        refine r_aload_n 2 rfl rfl 1200 rfl dL_law_1199 ?_
        refine r_aload_n 0 rfl rfl 1201 rfl dL_law_1200 ?_
        refine r_iload_n 3 rfl rfl 1202 rfl dL_law_1201 ?_
        refine r_iconst 1 (by decide) 1203 rfl dL_law_1202 ?_
        refine r_iadd 1204 rfl dL_law_1203 ?_
        refine r_sld rfl 1205 rfl dL_law_1204 ?_
        refine r_aload_n 0 rfl rfl 1206 rfl dL_law_1205 ?_
        refine r_iload_n 3 rfl rfl 1207 rfl dL_law_1206 ?_
        refine r_iconst 2 (by decide) 1208 rfl dL_law_1207 ?_
        refine r_iadd 1209 rfl dL_law_1208 ?_
        refine r_sld rfl 1210 rfl dL_law_1209 ?_
        refine r_aload_n 0 rfl rfl 1211 rfl dL_law_1210 ?_
        refine r_iload_n 3 rfl rfl 1212 rfl dL_law_1211 ?_
        refine r_iconst 3 (by decide) 1213 rfl dL_law_1212 ?_
        refine r_iadd 1214 rfl dL_law_1213 ?_
        refine r_sld rfl 1215 rfl dL_law_1214 ?_
        refine r_calli (c_X7_sheet E   _ _ _ _) rfl sh_67 rfl ml_L_160 cw_X7_sheet vw_X7_sheet (by decide) (Nat.le_of_ble_eq_true rfl) 1218 rfl dL_law_1215 (fun r144 σ144 => ?_)
        refine r_icmp_eq 1355 1221 rfl (by decide) dL_law_1218 (fun c145 => ?_) (fun c145 => ?_)
        · exact r_sub [0, 1, 2, 3] rfl (gj_L_law_1355 E   _ (fun x3  σ => ih x3  σ) _  _)
        · refine r_iconst 0 (by decide) 1222 rfl dL_law_1221 ?_
          exact r_zret rfl (Or.inl rfl) dL_law_1222
      refine r_split (fun c146 => ?_) (fun c146 => ?_)
      · refine r_tin 35 c146 1191 1223 (by decide) (by decide) (by decide) (by decide) dL_law_32 ?_
        refine r_aload_n 1 rfl rfl 1224 rfl dL_law_1223 ?_
        refine r_aload_n 0 rfl rfl 1225 rfl dL_law_1224 ?_
        refine r_iload_n 3 rfl rfl 1226 rfl dL_law_1225 ?_
        refine r_iconst 1 (by decide) 1227 rfl dL_law_1226 ?_
        refine r_iadd 1228 rfl dL_law_1227 ?_
        refine r_sld rfl 1229 rfl dL_law_1228 ?_
        refine r_aload_n 0 rfl rfl 1230 rfl dL_law_1229 ?_
        refine r_iload_n 3 rfl rfl 1231 rfl dL_law_1230 ?_
        refine r_iconst 2 (by decide) 1232 rfl dL_law_1231 ?_
        refine r_iadd 1233 rfl dL_law_1232 ?_
        refine r_sld rfl 1234 rfl dL_law_1233 ?_
        refine r_aload_n 0 rfl rfl 1235 rfl dL_law_1234 ?_
        refine r_iload_n 3 rfl rfl 1236 rfl dL_law_1235 ?_
        refine r_iconst 3 (by decide) 1237 rfl dL_law_1236 ?_
        refine r_iadd 1238 rfl dL_law_1237 ?_
        refine r_sld rfl 1239 rfl dL_law_1238 ?_
        refine r_calli (c_X6_lay E   _ _ _ _) rfl sh_0 rfl ml_L_161 cw_X6_lay vw_X6_lay (by decide) (Nat.le_of_ble_eq_true rfl) 1242 rfl dL_law_1239 (fun r147 σ147 => ?_)
        refine r_aload_n 2 rfl rfl 1243 rfl dL_law_1242 ?_
        refine r_aload_n 0 rfl rfl 1244 rfl dL_law_1243 ?_
        refine r_iload_n 3 rfl rfl 1245 rfl dL_law_1244 ?_
        refine r_iconst 1 (by decide) 1246 rfl dL_law_1245 ?_
        refine r_iadd 1247 rfl dL_law_1246 ?_
        refine r_sld rfl 1248 rfl dL_law_1247 ?_
        refine r_aload_n 0 rfl rfl 1249 rfl dL_law_1248 ?_
        refine r_iload_n 3 rfl rfl 1250 rfl dL_law_1249 ?_
        refine r_iconst 2 (by decide) 1251 rfl dL_law_1250 ?_
        refine r_iadd 1252 rfl dL_law_1251 ?_
        refine r_sld rfl 1253 rfl dL_law_1252 ?_
        refine r_aload_n 0 rfl rfl 1254 rfl dL_law_1253 ?_
        refine r_iload_n 3 rfl rfl 1255 rfl dL_law_1254 ?_
        refine r_iconst 3 (by decide) 1256 rfl dL_law_1255 ?_
        refine r_iadd 1257 rfl dL_law_1256 ?_
        refine r_sld rfl 1258 rfl dL_law_1257 ?_
        refine r_calli (c_X7_lay E   _ _ _ _) rfl sh_67 rfl ml_L_164 cw_X7_lay vw_X7_lay (by decide) (Nat.le_of_ble_eq_true rfl) 1261 rfl dL_law_1258 (fun r148 σ148 => ?_)
        refine r_icmp_eq 1355 1264 rfl (by decide) dL_law_1261 (fun c149 => ?_) (fun c149 => ?_)
        · exact r_sub [0, 1, 2, 3] rfl (gj_L_law_1355 E   _ (fun x3  σ => ih x3  σ) _  _)
        · refine r_iconst 0 (by decide) 1265 rfl dL_law_1264 ?_
          exact r_zret rfl (Or.inl rfl) dL_law_1265
      refine r_split (fun c150 => ?_) (fun c150 => ?_)
      · refine r_tin 36 c150 1234 1266 (by decide) (by decide) (by decide) (by decide) dL_law_32 ?_
        refine r_aload_n 1 rfl rfl 1267 rfl dL_law_1266 ?_
        refine r_aload_n 0 rfl rfl 1268 rfl dL_law_1267 ?_
        refine r_iload_n 3 rfl rfl 1269 rfl dL_law_1268 ?_
        refine r_iconst 1 (by decide) 1270 rfl dL_law_1269 ?_
        refine r_iadd 1271 rfl dL_law_1270 ?_
        refine r_sld rfl 1272 rfl dL_law_1271 ?_
        refine r_aload_n 0 rfl rfl 1273 rfl dL_law_1272 ?_
        refine r_iload_n 3 rfl rfl 1274 rfl dL_law_1273 ?_
        refine r_iconst 2 (by decide) 1275 rfl dL_law_1274 ?_
        refine r_iadd 1276 rfl dL_law_1275 ?_
        refine r_sld rfl 1277 rfl dL_law_1276 ?_
        refine r_aload_n 0 rfl rfl 1278 rfl dL_law_1277 ?_
        refine r_iload_n 3 rfl rfl 1279 rfl dL_law_1278 ?_
        refine r_iconst 3 (by decide) 1280 rfl dL_law_1279 ?_
        refine r_iadd 1281 rfl dL_law_1280 ?_
        refine r_sld rfl 1282 rfl dL_law_1281 ?_
        refine r_aload_n 0 rfl rfl 1283 rfl dL_law_1282 ?_
        refine r_iload_n 3 rfl rfl 1284 rfl dL_law_1283 ?_
        refine r_iconst 4 (by decide) 1285 rfl dL_law_1284 ?_
        refine r_iadd 1286 rfl dL_law_1285 ?_
        refine r_sld rfl 1287 rfl dL_law_1286 ?_
        refine r_calli (c_X6_read E   _ _ _ _ _) rfl sh_0 rfl ml_L_165 cw_X6_read vw_X6_read (by decide) (Nat.le_of_ble_eq_true rfl) 1290 rfl dL_law_1287 (fun r151 σ151 => ?_)
        refine r_aload_n 2 rfl rfl 1291 rfl dL_law_1290 ?_
        refine r_aload_n 0 rfl rfl 1292 rfl dL_law_1291 ?_
        refine r_iload_n 3 rfl rfl 1293 rfl dL_law_1292 ?_
        refine r_iconst 1 (by decide) 1294 rfl dL_law_1293 ?_
        refine r_iadd 1295 rfl dL_law_1294 ?_
        refine r_sld rfl 1296 rfl dL_law_1295 ?_
        refine r_aload_n 0 rfl rfl 1297 rfl dL_law_1296 ?_
        refine r_iload_n 3 rfl rfl 1298 rfl dL_law_1297 ?_
        refine r_iconst 2 (by decide) 1299 rfl dL_law_1298 ?_
        refine r_iadd 1300 rfl dL_law_1299 ?_
        refine r_sld rfl 1301 rfl dL_law_1300 ?_
        refine r_aload_n 0 rfl rfl 1302 rfl dL_law_1301 ?_
        refine r_iload_n 3 rfl rfl 1303 rfl dL_law_1302 ?_
        refine r_iconst 3 (by decide) 1304 rfl dL_law_1303 ?_
        refine r_iadd 1305 rfl dL_law_1304 ?_
        refine r_sld rfl 1306 rfl dL_law_1305 ?_
        refine r_aload_n 0 rfl rfl 1307 rfl dL_law_1306 ?_
        refine r_iload_n 3 rfl rfl 1308 rfl dL_law_1307 ?_
        refine r_iconst 4 (by decide) 1309 rfl dL_law_1308 ?_
        refine r_iadd 1310 rfl dL_law_1309 ?_
        refine r_sld rfl 1311 rfl dL_law_1310 ?_
        refine r_calli (c_X7_read E   _ _ _ _ _) rfl sh_67 rfl ml_L_169 cw_X7_read vw_X7_read (by decide) (Nat.le_of_ble_eq_true rfl) 1314 rfl dL_law_1311 (fun r152 σ152 => ?_)
        refine r_icmp_eq 1355 1317 rfl (by decide) dL_law_1314 (fun c153 => ?_) (fun c153 => ?_)
        · exact r_sub [0, 1, 2, 3] rfl (gj_L_law_1355 E   _ (fun x3  σ => ih x3  σ) _  _)
        · refine r_iconst 0 (by decide) 1318 rfl dL_law_1317 ?_
          exact r_zret rfl (Or.inl rfl) dL_law_1318
      refine r_split (fun c154 => ?_) (fun c154 => ?_)
      · refine r_tin 37 c154 1287 1319 (by decide) (by decide) (by decide) (by decide) dL_law_32 ?_
        refine r_aload_n 1 rfl rfl 1320 rfl dL_law_1319 ?_
        refine r_calli (c_X6_torn E    _) rfl sh_0 rfl ml_L_170 cw_X6_torn vw_X6_torn (by decide) (Nat.le_of_ble_eq_true rfl) 1323 rfl dL_law_1320 (fun r155 σ155 => ?_)
        refine r_aload_n 2 rfl rfl 1324 rfl dL_law_1323 ?_
        refine r_calli (c_X7_torn E    _) rfl sh_67 rfl ml_L_173 cw_X7_torn vw_X7_torn (by decide) (Nat.le_of_ble_eq_true rfl) 1327 rfl dL_law_1324 (fun r156 σ156 => ?_)
        refine r_icmp_eq 1355 1330 rfl (by decide) dL_law_1327 (fun c157 => ?_) (fun c157 => ?_)
        · exact r_sub [0, 1, 2, 3] rfl (gj_L_law_1355 E   _ (fun x3  σ => ih x3  σ) _  _)
        · refine r_iconst 0 (by decide) 1331 rfl dL_law_1330 ?_
          exact r_zret rfl (Or.inl rfl) dL_law_1331
      refine r_split (fun c158 => ?_) (fun c158 => ?_)
      · refine r_tin 38 c158 1300 1332 (by decide) (by decide) (by decide) (by decide) dL_law_32 ?_
        refine r_aload_n 1 rfl rfl 1333 rfl dL_law_1332 ?_
        refine r_aload_n 0 rfl rfl 1334 rfl dL_law_1333 ?_
        refine r_iload_n 3 rfl rfl 1335 rfl dL_law_1334 ?_
        refine r_iconst 1 (by decide) 1336 rfl dL_law_1335 ?_
        refine r_iadd 1337 rfl dL_law_1336 ?_
        refine r_sld rfl 1338 rfl dL_law_1337 ?_
        refine r_calli (c_X6_count E   _ _) rfl sh_0 rfl ml_L_174 cw_X6_count vw_X6_count (by decide) (Nat.le_of_ble_eq_true rfl) 1341 rfl dL_law_1338 (fun r159 σ159 => ?_)
        refine r_aload_n 2 rfl rfl 1342 rfl dL_law_1341 ?_
        refine r_aload_n 0 rfl rfl 1343 rfl dL_law_1342 ?_
        refine r_iload_n 3 rfl rfl 1344 rfl dL_law_1343 ?_
        refine r_iconst 1 (by decide) 1345 rfl dL_law_1344 ?_
        refine r_iadd 1346 rfl dL_law_1345 ?_
        refine r_sld rfl 1347 rfl dL_law_1346 ?_
        refine r_calli (c_X7_count E   _ _) rfl sh_67 rfl ml_L_177 cw_X7_count vw_X7_count (by decide) (Nat.le_of_ble_eq_true rfl) 1350 rfl dL_law_1347 (fun r160 σ160 => ?_)
        refine r_icmp_eq 1355 1353 rfl (by decide) dL_law_1350 (fun c161 => ?_) (fun c161 => ?_)
        · exact r_sub [0, 1, 2, 3] rfl (gj_L_law_1355 E   _ (fun x3  σ => ih x3  σ) _  _)
        · refine r_iconst 0 (by decide) 1354 rfl dL_law_1353 ?_
          exact r_zret rfl (Or.inl rfl) dL_law_1354
      refine r_tout 1355 (by have hc2 := lv_neT c2 (k := 0) (a := 0) (by decide); have hc6 := lv_neT c6 (k := 1) (a := 1) (by decide); have hc10 := lv_neT c10 (k := 2) (a := 2) (by decide); have hc14 := lv_neT c14 (k := 3) (a := 3) (by decide); have hc18 := lv_neT c18 (k := 4) (a := 4) (by decide); have hc22 := lv_neT c22 (k := 5) (a := 5) (by decide); have hc26 := lv_neT c26 (k := 6) (a := 6) (by decide); have hc30 := lv_neT c30 (k := 7) (a := 7) (by decide); have hc34 := lv_neT c34 (k := 8) (a := 8) (by decide); have hc38 := lv_neT c38 (k := 9) (a := 9) (by decide); have hc42 := lv_neT c42 (k := 10) (a := 10) (by decide); have hc48 := lv_neT c48 (k := 11) (a := 11) (by decide); have hc54 := lv_neT c54 (k := 12) (a := 12) (by decide); have hc58 := lv_neT c58 (k := 13) (a := 13) (by decide); have hc62 := lv_neT c62 (k := 14) (a := 14) (by decide); have hc66 := lv_neT c66 (k := 15) (a := 15) (by decide); have hc70 := lv_neT c70 (k := 16) (a := 16) (by decide); have hc74 := lv_neT c74 (k := 17) (a := 17) (by decide); have hc78 := lv_neT c78 (k := 18) (a := 18) (by decide); have hc82 := lv_neT c82 (k := 19) (a := 19) (by decide); have hc86 := lv_neT c86 (k := 20) (a := 20) (by decide); have hc90 := lv_neT c90 (k := 21) (a := 21) (by decide); have hc94 := lv_neT c94 (k := 22) (a := 22) (by decide); have hc98 := lv_neT c98 (k := 23) (a := 23) (by decide); have hc102 := lv_neT c102 (k := 24) (a := 24) (by decide); have hc106 := lv_neT c106 (k := 25) (a := 25) (by decide); have hc110 := lv_neT c110 (k := 26) (a := 26) (by decide); have hc114 := lv_neT c114 (k := 27) (a := 27) (by decide); have hc118 := lv_neT c118 (k := 28) (a := 28) (by decide); have hc122 := lv_neT c122 (k := 29) (a := 29) (by decide); have hc126 := lv_neT c126 (k := 30) (a := 30) (by decide); have hc130 := lv_neT c130 (k := 31) (a := 31) (by decide); have hc134 := lv_neT c134 (k := 32) (a := 32) (by decide); have hc138 := lv_neT c138 (k := 33) (a := 33) (by decide); have hc142 := lv_neT c142 (k := 34) (a := 34) (by decide); have hc146 := lv_neT c146 (k := 35) (a := 35) (by decide); have hc150 := lv_neT c150 (k := 36) (a := 36) (by decide); have hc154 := lv_neT c154 (k := 37) (a := 37) (by decide); have hc158 := lv_neT c158 (k := 38) (a := 38) (by decide); omega) (by decide) dL_law_32 ?_
      exact r_sub [0, 1, 2, 3] rfl (gj_L_law_1355 E   _ (fun x3  σ => ih x3  σ) _  _)
