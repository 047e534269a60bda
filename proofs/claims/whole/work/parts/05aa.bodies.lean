def B_J7_fill_53178_1 (N : Nat) (K20_1 : (Nat → Int32) → Option ((Nat → Int32))) (n1 : Int32) : (Int32 → (Nat → Int32) → Option ((Nat → Int32))) → Int32 → (Nat → Int32) → Option ((Nat → Int32)) := fun rec2 (y2_2 : Int32) (u_2 : Nat → Int32) =>
    if (Int32.ofNat N) ≤ y2_2 then
      K20_1 u_2
    else
      if y2_2 < 0 ∨ N ≤ (y2_2).toNatClampNeg then none else
      rec2 (y2_2 + (1 : Int32)) (upd u_2 (y2_2).toNatClampNeg n1)
def B_X0_refresh_1 (b_horses : Int32) (K53_1 : (Nat → Int32) → Option ((Nat → Int32))) (u : Nat → Int32) (b_back : Nat → Int32) (n2 : Int32) (b_strength : Nat → Int32) : (Int32 → (Nat → Int32) → Option ((Nat → Int32))) → Int32 → (Nat → Int32) → Option ((Nat → Int32)) := fun rec2 (y4_2 : Int32) (v_2 : Nat → Int32) =>
    if b_horses ≤ y4_2 then
      K53_1 v_2
    else
      if (6 : Int32) ≤ y4_2 then
        K53_1 v_2
      else
        if y4_2 < 0 ∨ 6 ≤ (y4_2).toNatClampNeg then none else
        rec2 (y4_2 + (1 : Int32)) (upd v_2 (y4_2).toNatClampNeg (if ((u (y4_2).toNatClampNeg) + ((b_back (y4_2).toNatClampNeg) * n2)) < (b_strength (y4_2).toNatClampNeg) then ((u (y4_2).toNatClampNeg) + ((b_back (y4_2).toNatClampNeg) * n2)) else (b_strength (y4_2).toNatClampNeg)))
def B_X5_placeOf_1 (K25_1 : Unit → Option (Int32)) (s_stands : Nat → Int32) (n1 : Int32) : (Int32 → Option (Int32)) → Int32 → Option (Int32) := fun rec2 (y2_2 : Int32) =>
    if (3 : Int32) ≤ y2_2 then
      K25_1 ()
    else
      if y2_2 < 0 ∨ 3 ≤ (y2_2).toNatClampNeg then none else
      if (s_stands (y2_2).toNatClampNeg) = n1 then
        some (y2_2)
      else
        rec2 (y2_2 + (1 : Int32))
def B_X2_fill_1 (b_places : Int32) (b_horses : Int32) (K123_1 : Int32 → (Nat → Int32) → (Nat → Int32) → Option (Int32 × (Nat → Int32) × (Nat → Int32))) (b_blinds : Int32) (b_pull : Nat → Int32) (b_moods : Nat → Int32) : (Int32 → Int32 → (Nat → Int32) → (Nat → Int32) → Option (Int32 × (Nat → Int32) × (Nat → Int32))) → Int32 → Int32 → (Nat → Int32) → (Nat → Int32) → Option (Int32 × (Nat → Int32) × (Nat → Int32)) := fun rec2 (y1_2 : Int32) (c_last_2 : Int32) (c_who_2 : Nat → Int32) (c_pull_2 : Nat → Int32) =>
    bn1 (f_X2_choices (0 : Int32) b_places b_horses) (fun (r_3 : Int32) =>
      if r_3 ≤ y1_2 then
        K123_1 c_last_2 c_who_2 c_pull_2
      else
        jn3 (fun (c_last_4 : Int32) (c_who_4 : Nat → Int32) (c_pull_4 : Nat → Int32) =>
          rec2 (y1_2 + (1 : Int32)) c_last_4 c_who_4 c_pull_4
        ) (fun K117_4 =>
        lq4 (fun rec5 (y2_5 : Int32) (c_last_5 : Int32) (c_who_5 : Nat → Int32) (c_pull_5 : Nat → Int32) =>
          bn1 (f_X2_choices (1 : Int32) b_places b_horses) (fun (r_6 : Int32) =>
            if r_6 ≤ y2_5 then
              K117_4 c_last_5 c_who_5 c_pull_5
            else
              jn3 (fun (c_last_7 : Int32) (c_who_7 : Nat → Int32) (c_pull_7 : Nat → Int32) =>
                rec5 (y2_5 + (1 : Int32)) c_last_7 c_who_7 c_pull_7
              ) (fun K111_7 =>
              lq4 (fun rec8 (y3_8 : Int32) (c_last_8 : Int32) (c_who_8 : Nat → Int32) (c_pull_8 : Nat → Int32) =>
                bn1 (f_X2_choices (2 : Int32) b_places b_horses) (fun (r_9 : Int32) =>
                  if r_9 ≤ y3_8 then
                    K111_7 c_last_8 c_who_8 c_pull_8
                  else
                    jn1 (fun (z0_10 : Int32) =>
                      jn3 (fun (c_last_11 : Int32) (c_who_11 : Nat → Int32) (c_pull_11 : Nat → Int32) =>
                        rec8 (y3_8 + (1 : Int32)) c_last_11 c_who_11 c_pull_11
                      ) (fun J105_11 =>
                      if z0_10 = 0 then
                        bn1 (f_X2_isOneTwice y1_2 y2_5 y3_8) (fun (r_12 : Int32) =>
                          if r_12 = 0 then
                            if (228 : Int32) ≤ c_last_8 then
                              J105_11 c_last_8 c_who_8 c_pull_8
                            else
                              bn2 (f_X2_seat (c_last_8 + (1 : Int32)) y1_2 y2_5 y3_8 c_who_8 c_pull_8 b_horses b_blinds b_pull b_moods) (fun (c_who_13 : Nat → Int32) (c_pull_13 : Nat → Int32) =>
                                J105_11 (c_last_8 + (1 : Int32)) c_who_13 c_pull_13
                              )
                          else
                            J105_11 c_last_8 c_who_8 c_pull_8
                        )
                      else
                        J105_11 c_last_8 c_who_8 c_pull_8
                      )
                    ) (fun J58_10 =>
                    jn1 (fun (u_14 : Unit) =>
                      J58_10 (0 : Int32)
                    ) (fun J57_14 =>
                    if y1_2 = (-1 : Int32) then
                      if y2_5 = (-1 : Int32) then
                        if y3_8 = (-1 : Int32) then
                          J58_10 (1 : Int32)
                        else
                          J57_14 ()
                      else
                        J57_14 ()
                    else
                      J57_14 ()
                    )
                    )
                )
              ) fu (-1 : Int32) c_last_5 c_who_5 c_pull_5
              )
          )
        ) fu (-1 : Int32) c_last_2 c_who_2 c_pull_2
        )
    )
def B_X2_fill_2 (b_places : Int32) (b_horses : Int32) (K117_4 : Int32 → (Nat → Int32) → (Nat → Int32) → Option (Int32 × (Nat → Int32) × (Nat → Int32))) (y1_2 : Int32) (b_blinds : Int32) (b_pull : Nat → Int32) (b_moods : Nat → Int32) : (Int32 → Int32 → (Nat → Int32) → (Nat → Int32) → Option (Int32 × (Nat → Int32) × (Nat → Int32))) → Int32 → Int32 → (Nat → Int32) → (Nat → Int32) → Option (Int32 × (Nat → Int32) × (Nat → Int32)) := fun rec5 (y2_5 : Int32) (c_last_5 : Int32) (c_who_5 : Nat → Int32) (c_pull_5 : Nat → Int32) =>
          bn1 (f_X2_choices (1 : Int32) b_places b_horses) (fun (r_6 : Int32) =>
            if r_6 ≤ y2_5 then
              K117_4 c_last_5 c_who_5 c_pull_5
            else
              jn3 (fun (c_last_7 : Int32) (c_who_7 : Nat → Int32) (c_pull_7 : Nat → Int32) =>
                rec5 (y2_5 + (1 : Int32)) c_last_7 c_who_7 c_pull_7
              ) (fun K111_7 =>
              lq4 (fun rec8 (y3_8 : Int32) (c_last_8 : Int32) (c_who_8 : Nat → Int32) (c_pull_8 : Nat → Int32) =>
                bn1 (f_X2_choices (2 : Int32) b_places b_horses) (fun (r_9 : Int32) =>
                  if r_9 ≤ y3_8 then
                    K111_7 c_last_8 c_who_8 c_pull_8
                  else
                    jn1 (fun (z0_10 : Int32) =>
                      jn3 (fun (c_last_11 : Int32) (c_who_11 : Nat → Int32) (c_pull_11 : Nat → Int32) =>
                        rec8 (y3_8 + (1 : Int32)) c_last_11 c_who_11 c_pull_11
                      ) (fun J105_11 =>
                      if z0_10 = 0 then
                        bn1 (f_X2_isOneTwice y1_2 y2_5 y3_8) (fun (r_12 : Int32) =>
                          if r_12 = 0 then
                            if (228 : Int32) ≤ c_last_8 then
                              J105_11 c_last_8 c_who_8 c_pull_8
                            else
                              bn2 (f_X2_seat (c_last_8 + (1 : Int32)) y1_2 y2_5 y3_8 c_who_8 c_pull_8 b_horses b_blinds b_pull b_moods) (fun (c_who_13 : Nat → Int32) (c_pull_13 : Nat → Int32) =>
                                J105_11 (c_last_8 + (1 : Int32)) c_who_13 c_pull_13
                              )
                          else
                            J105_11 c_last_8 c_who_8 c_pull_8
                        )
                      else
                        J105_11 c_last_8 c_who_8 c_pull_8
                      )
                    ) (fun J58_10 =>
                    jn1 (fun (u_14 : Unit) =>
                      J58_10 (0 : Int32)
                    ) (fun J57_14 =>
                    if y1_2 = (-1 : Int32) then
                      if y2_5 = (-1 : Int32) then
                        if y3_8 = (-1 : Int32) then
                          J58_10 (1 : Int32)
                        else
                          J57_14 ()
                      else
                        J57_14 ()
                    else
                      J57_14 ()
                    )
                    )
                )
              ) fu (-1 : Int32) c_last_5 c_who_5 c_pull_5
              )
          )
def B_X2_fill_3 (b_places : Int32) (b_horses : Int32) (K111_7 : Int32 → (Nat → Int32) → (Nat → Int32) → Option (Int32 × (Nat → Int32) × (Nat → Int32))) (y1_2 : Int32) (y2_5 : Int32) (b_blinds : Int32) (b_pull : Nat → Int32) (b_moods : Nat → Int32) : (Int32 → Int32 → (Nat → Int32) → (Nat → Int32) → Option (Int32 × (Nat → Int32) × (Nat → Int32))) → Int32 → Int32 → (Nat → Int32) → (Nat → Int32) → Option (Int32 × (Nat → Int32) × (Nat → Int32)) := fun rec8 (y3_8 : Int32) (c_last_8 : Int32) (c_who_8 : Nat → Int32) (c_pull_8 : Nat → Int32) =>
                bn1 (f_X2_choices (2 : Int32) b_places b_horses) (fun (r_9 : Int32) =>
                  if r_9 ≤ y3_8 then
                    K111_7 c_last_8 c_who_8 c_pull_8
                  else
                    jn1 (fun (z0_10 : Int32) =>
                      jn3 (fun (c_last_11 : Int32) (c_who_11 : Nat → Int32) (c_pull_11 : Nat → Int32) =>
                        rec8 (y3_8 + (1 : Int32)) c_last_11 c_who_11 c_pull_11
                      ) (fun J105_11 =>
                      if z0_10 = 0 then
                        bn1 (f_X2_isOneTwice y1_2 y2_5 y3_8) (fun (r_12 : Int32) =>
                          if r_12 = 0 then
                            if (228 : Int32) ≤ c_last_8 then
                              J105_11 c_last_8 c_who_8 c_pull_8
                            else
                              bn2 (f_X2_seat (c_last_8 + (1 : Int32)) y1_2 y2_5 y3_8 c_who_8 c_pull_8 b_horses b_blinds b_pull b_moods) (fun (c_who_13 : Nat → Int32) (c_pull_13 : Nat → Int32) =>
                                J105_11 (c_last_8 + (1 : Int32)) c_who_13 c_pull_13
                              )
                          else
                            J105_11 c_last_8 c_who_8 c_pull_8
                        )
                      else
                        J105_11 c_last_8 c_who_8 c_pull_8
                      )
                    ) (fun J58_10 =>
                    jn1 (fun (u_14 : Unit) =>
                      J58_10 (0 : Int32)
                    ) (fun J57_14 =>
                    if y1_2 = (-1 : Int32) then
                      if y2_5 = (-1 : Int32) then
                        if y3_8 = (-1 : Int32) then
                          J58_10 (1 : Int32)
                        else
                          J57_14 ()
                      else
                        J57_14 ()
                    else
                      J57_14 ()
                    )
                    )
                )
def B_X2_placeOf_1 (K30_1 : Unit → Option (Int32)) (n1 : Int32) (c_who : Nat → Int32) : (Int32 → Option (Int32)) → Int32 → Option (Int32) := fun rec2 (y2_2 : Int32) =>
    if (3 : Int32) ≤ y2_2 then
      K30_1 ()
    else
      jn1 (fun (u_3 : Unit) =>
        rec2 (y2_2 + (1 : Int32))
      ) (fun J24_3 =>
      if n1 = (-1 : Int32) then
        J24_3 ()
      else
        if y2_2 < 0 ∨ 687 ≤ (y2_2).toNatClampNeg then none else
        if (c_who (y2_2).toNatClampNeg) = n1 then
          some (y2_2)
        else
          J24_3 ()
      )
def B_X2_pace_1 (n1 : Int32) (K97_1 : Int32 → Int32 → Int32 → Option (Int32)) (c_who : Nat → Int32) (u : Nat → Int32) (n3 : Int32) (c_pull : Nat → Int32) : (Int32 → Int32 → Int32 → Int32 → Option (Int32)) → Int32 → Int32 → Int32 → Int32 → Option (Int32) := fun rec2 (y4_2 : Int32) (y5_2 : Int32) (y6_2 : Int32) (y7_2 : Int32) =>
    if (n1 + (3 : Int32)) ≤ y7_2 then
      K97_1 y4_2 y5_2 y6_2
    else
      if y7_2 < 0 ∨ 687 ≤ (y7_2).toNatClampNeg then none else
      jn3 (fun (y4_4 : Int32) (y5_4 : Int32) (y6_4 : Int32) =>
        rec2 y4_4 y5_4 y6_4 (y7_2 + (1 : Int32))
      ) (fun J91_4 =>
      if (c_who (y7_2).toNatClampNeg) < 0 then
        J91_4 y4_2 y5_2 y6_2
      else
        if (6 : Int32) ≤ (c_who (y7_2).toNatClampNeg) then
          J91_4 y4_2 y5_2 y6_2
        else
          if (c_who (y7_2).toNatClampNeg) < 0 ∨ 6 ≤ ((c_who (y7_2).toNatClampNeg)).toNatClampNeg then none else
          jn1 (fun (z0_6 : Int32) =>
            jn1 (fun (z0_7 : Int32) =>
              J91_4 (y4_2 + (1 : Int32)) (y5_2 + z0_6) z0_7
            ) (fun J86_7 =>
            if y4_2 = 0 then
              J86_7 z0_6
            else
              J86_7 (if z0_6 < y6_2 then z0_6 else y6_2)
            )
          ) (fun J60_6 =>
          if (u ((c_who (y7_2).toNatClampNeg)).toNatClampNeg) ≤ n3 then
            J60_6 (0 : Int32)
          else
            J60_6 (c_pull (y7_2).toNatClampNeg)
          )
      )
def B_X2_nextLame_1 (n1 : Int32) (K61_1 : Int32 → Option (Int32)) (c_who : Nat → Int32) (u : Nat → Int32) (n3 : Int32) : (Int32 → Int32 → Option (Int32)) → Int32 → Int32 → Option (Int32) := fun rec2 (y4_2 : Int32) (y5_2 : Int32) =>
    if (n1 + (3 : Int32)) ≤ y5_2 then
      K61_1 y4_2
    else
      if y5_2 < 0 ∨ 687 ≤ (y5_2).toNatClampNeg then none else
      jn1 (fun (y4_4 : Int32) =>
        rec2 y4_4 (y5_2 + (1 : Int32))
      ) (fun J55_4 =>
      if (c_who (y5_2).toNatClampNeg) < 0 then
        J55_4 y4_2
      else
        if (6 : Int32) ≤ (c_who (y5_2).toNatClampNeg) then
          J55_4 y4_2
        else
          if (c_who (y5_2).toNatClampNeg) < 0 ∨ 6 ≤ ((c_who (y5_2).toNatClampNeg)).toNatClampNeg then none else
          if (u ((c_who (y5_2).toNatClampNeg)).toNatClampNeg) ≤ n3 then
            J55_4 y4_2
          else
            J55_4 (if (u ((c_who (y5_2).toNatClampNeg)).toNatClampNeg) < y4_2 then (u ((c_who (y5_2).toNatClampNeg)).toNatClampNeg) else y4_2)
      )
def B_X2_minutes_1 (K125_2 : Unit → Option (Int32)) (n1 : Int32) (c_who : Nat → Int32) (c_pull : Nat → Int32) (b_law : Int32) (u : Nat → Int32) (n3 : Int32) (b_broad : Int32) (n4 : Int32) : (Int32 → Int32 → Int32 → Option (Int32)) → Int32 → Int32 → Int32 → Option (Int32) := fun rec3 (y6_3 : Int32) (y7_3 : Int32) (y8_3 : Int32) =>
        if (3 : Int32) < y8_3 then
          K125_2 ()
        else
          bn1 (f_X2_pace (n1 * (3 : Int32)) y6_3 c_who c_pull b_law u) (fun (r_4 : Int32) =>
            if 0 < (r_4 + n3) then
              if (r_4 + n3) = 0 then none else
              if (y6_3 + ((((b_broad - y7_3) + (r_4 + n3)) - (1 : Int32)) / (r_4 + n3))) ≤ n4 then
                bn1 (f_X2_nextLame (n1 * (3 : Int32)) y6_3 c_who u) (fun (r_6 : Int32) =>
                  if r_6 < (y6_3 + ((((b_broad - y7_3) + (r_4 + n3)) - (1 : Int32)) / (r_4 + n3))) then
                    rec3 r_6 (y7_3 + ((r_4 + n3) * (r_6 - y6_3))) (y8_3 + (1 : Int32))
                  else
                    some ((y6_3 + ((((b_broad - y7_3) + (r_4 + n3)) - (1 : Int32)) / (r_4 + n3))))
                )
              else
                some ((-1 : Int32))
            else
              some ((-1 : Int32))
          )
def B_X2_oats_1 (n1 : Int32) (K78_2 : Int32 → Option (Int32)) (c_who : Nat → Int32) (c_pull : Nat → Int32) (n3 : Int32) (u : Nat → Int32) : (Int32 → Int32 → Option (Int32)) → Int32 → Int32 → Option (Int32) := fun rec3 (y5_3 : Int32) (y6_3 : Int32) =>
        if ((n1 * (3 : Int32)) + (3 : Int32)) ≤ y6_3 then
          K78_2 y5_3
        else
          if y6_3 < 0 ∨ 687 ≤ (y6_3).toNatClampNeg then none else
          jn1 (fun (y5_5 : Int32) =>
            rec3 y5_5 (y6_3 + (1 : Int32))
          ) (fun J72_5 =>
          if (c_who (y6_3).toNatClampNeg) < 0 then
            J72_5 y5_3
          else
            if (6 : Int32) ≤ (c_who (y6_3).toNatClampNeg) then
              J72_5 y5_3
            else
              if (c_who (y6_3).toNatClampNeg) < 0 ∨ 6 ≤ ((c_who (y6_3).toNatClampNeg)).toNatClampNeg then none else
              J72_5 (y5_3 + ((c_pull (y6_3).toNatClampNeg) * (if n3 < (u ((c_who (y6_3).toNatClampNeg)).toNatClampNeg) then n3 else (u ((c_who (y6_3).toNatClampNeg)).toNatClampNeg))))
          )
def B_X2_tire_1 (b_horses : Int32) (K84_1 : (Nat → Int32) → Option ((Nat → Int32))) (n1 : Int32) (c_who : Nat → Int32) (u : Nat → Int32) (b_back : Nat → Int32) (b_strength : Nat → Int32) (n2 : Int32) : (Int32 → (Nat → Int32) → Option ((Nat → Int32))) → Int32 → (Nat → Int32) → Option ((Nat → Int32)) := fun rec2 (y5_2 : Int32) (v_2 : Nat → Int32) =>
    if b_horses ≤ y5_2 then
      K84_1 v_2
    else
      if (6 : Int32) ≤ y5_2 then
        K84_1 v_2
      else
        bn1 (f_X2_takes n1 y5_2 c_who) (fun (r_3 : Int32) =>
          jn1 (fun (z2_4 : Int32) =>
            if y5_2 < 0 ∨ 6 ≤ (y5_2).toNatClampNeg then none else
            rec2 (y5_2 + (1 : Int32)) (upd v_2 (y5_2).toNatClampNeg z2_4)
          ) (fun J77_4 =>
          if r_3 = 0 then
            if y5_2 < 0 ∨ 6 ≤ (y5_2).toNatClampNeg then none else
            J77_4 (if ((u (y5_2).toNatClampNeg) + (b_back (y5_2).toNatClampNeg)) < (b_strength (y5_2).toNatClampNeg) then ((u (y5_2).toNatClampNeg) + (b_back (y5_2).toNatClampNeg)) else (b_strength (y5_2).toNatClampNeg))
          else
            if y5_2 < 0 ∨ 6 ≤ (y5_2).toNatClampNeg then none else
            J77_4 (if (0 : Int32) < ((u (y5_2).toNatClampNeg) - n2) then ((u (y5_2).toNatClampNeg) - n2) else (0 : Int32))
          )
        )
def B_X4_skipBlanks_1 (r_length : Int32) (K48_1 : Int32 → Option (Int32)) (r_text : Nat → Int32) : (Int32 → Option (Int32)) → Int32 → Option (Int32) := fun rec2 (r_next_2 : Int32) =>
    if r_length ≤ r_next_2 then
      K48_1 r_next_2
    else
      if (500 : Int32) ≤ r_next_2 then
        K48_1 r_next_2
      else
        if r_next_2 < 0 ∨ 500 ≤ (r_next_2).toNatClampNeg then none else
        if (r_text (r_next_2).toNatClampNeg) = (32 : Int32) then
          rec2 (r_next_2 + (1 : Int32))
        else
          K48_1 r_next_2
def B_X4_wordEnd_1 (r_length : Int32) (K30_1 : Int32 → Option (Int32)) (r_text : Nat → Int32) : (Int32 → Int32 → Option (Int32)) → Int32 → Int32 → Option (Int32) := fun rec2 (y2_2 : Int32) (y3_2 : Int32) =>
    if r_length ≤ y3_2 then
      K30_1 y2_2
    else
      bn1 (f_X4_isLetter y3_2 r_length r_text) (fun (r_3 : Int32) =>
        if r_3 = 0 then
          K30_1 y2_2
        else
          rec2 (y3_2 + (1 : Int32)) (y3_2 + (1 : Int32))
      )
def B_X4_isWord_1 (n1 : Nat) (K61_1 : Unit → Option (Int32)) (n2 : Int32) (r_text : Nat → Int32) : (Int32 → Option (Int32)) → Int32 → Option (Int32) := fun rec2 (y4_2 : Int32) =>
          if (slen n1) ≤ y4_2 then
            K61_1 ()
          else
            if (n2 + y4_2) < 0 ∨ 500 ≤ ((n2 + y4_2)).toNatClampNeg then none else
            if y4_2 < 0 ∨ lenS.getD n1 0 ≤ (y4_2).toNatClampNeg then none else
            if (r_text ((n2 + y4_2)).toNatClampNeg) = (sch n1 y4_2) then
              rec2 (y4_2 + (1 : Int32))
            else
              some ((0 : Int32))
def B_X4_readNumber_1 (r_length : Int32) (K97_4 : Int32 → Int32 → Option (Int32 × Int32 × Int32 × Int32 × Int32)) (r_text : Nat → Int32) : (Int32 → Int32 → Int32 → Option (Int32 × Int32 × Int32 × Int32 × Int32)) → Int32 → Int32 → Int32 → Option (Int32 × Int32 × Int32 × Int32 × Int32) := fun rec7 (y3_7 : Int32) (y4_7 : Int32) (r_next_7 : Int32) =>
            if r_length ≤ y4_7 then
              K97_4 y3_7 r_next_7
            else
              bn1 (f_X4_isFigure y4_7 r_length r_text) (fun (r_8 : Int32) =>
                if r_8 = 0 then
                  K97_4 y3_7 r_next_7
                else
                  if y4_7 < 0 ∨ 500 ≤ (y4_7).toNatClampNeg then none else
                  rec7 (((y3_7 * (10 : Int32)) + (r_text (y4_7).toNatClampNeg)) - (48 : Int32)) (y4_7 + (1 : Int32)) (y4_7 + (1 : Int32))
              )
def B_X4_readTide_1 (K61_1 : Int32 → Int32 → Int32 → Int32 → Int32 → (Nat → Int32) → Option (Int32 × Int32 × Int32 × Int32 × Int32 × (Nat → Int32))) (r_length : Int32) (r_text : Nat → Int32) : (Int32 → Int32 → Int32 → Int32 → Int32 → Int32 → Int32 → (Nat → Int32) → Option (Int32 × Int32 × Int32 × Int32 × Int32 × (Nat → Int32))) → Int32 → Int32 → Int32 → Int32 → Int32 → Int32 → Int32 → (Nat → Int32) → Option (Int32 × Int32 × Int32 × Int32 × Int32 × (Nat → Int32)) := fun rec3 (y2_3 : Int32) (y3_3 : Int32) (r_fault_3 : Int32) (r_faultAt_3 : Int32) (r_next_3 : Int32) (r_numberFrom_3 : Int32) (b_tideCount_3 : Int32) (b_tides_3 : Nat → Int32) =>
    if (12 : Int32) ≤ y3_3 then
      K61_1 r_fault_3 r_faultAt_3 r_next_3 r_numberFrom_3 b_tideCount_3 b_tides_3
    else
      if y2_3 = 0 then
        K61_1 r_fault_3 r_faultAt_3 r_next_3 r_numberFrom_3 b_tideCount_3 b_tides_3
      else
        bn5 (f_X4_readNumber (0 : Int32) (40 : Int32) r_length r_fault_3 r_faultAt_3 r_next_3 r_numberFrom_3 r_text) (fun (r_4 : Int32) (r_fault_4 : Int32) (r_faultAt_4 : Int32) (r_next_4 : Int32) (r_numberFrom_4 : Int32) =>
          jn2 (fun (b_tideCount_5 : Int32) (b_tides_5 : Nat → Int32) =>
            jn2 (fun (r_next_6 : Int32) (z0_6 : Int32) =>
              rec3 z0_6 (y3_3 + (1 : Int32)) r_fault_4 r_faultAt_4 r_next_6 r_numberFrom_4 b_tideCount_5 b_tides_5
            ) (fun J54_6 =>
            jn1 (fun (r_next_7 : Int32) =>
              J54_6 r_next_7 (0 : Int32)
            ) (fun J53_7 =>
            if (11 : Int32) ≤ y3_3 then
              J53_7 r_next_4
            else
              bn2 (f_X4_takeComma r_length r_fault_4 r_next_4 r_text) (fun (r_8 : Int32) (r_next_8 : Int32) =>
                if r_8 = 0 then
                  J53_7 r_next_8
                else
                  J54_6 r_next_8 (1 : Int32)
              )
            )
            )
          ) (fun J36_5 =>
          if r_fault_4 = 0 then
            bn2 (f_X0_addTide r_4 b_tideCount_3 b_tides_3) (fun (b_tideCount_9 : Int32) (b_tides_9 : Nat → Int32) =>
              J36_5 b_tideCount_9 b_tides_9
            )
          else
            J36_5 b_tideCount_3 b_tides_3
          )
        )
def B_X4_read_1 (K64_2 : Int32 → Int32 → Int32 → Int32 → Int32 → Int32 → Int32 → Int32 → Int32 → Int32 → Int32 → Int32 → Int32 → Int64 → (Nat → Int32) → (Nat → Int32) → (Nat → Int32) → (Nat → Int32) → (Nat → Int32) → (Nat → Int32) → Option (Int32 × Int32 × Int32 × Int32 × Int32 × Int32 × Int32 × Int32 × Int32 × Int32 × Int32 × Int32 × Int32 × Int32 × Int64 × (Nat → Int32) × (Nat → Int32) × (Nat → Int32) × (Nat → Int32) × (Nat → Int32) × (Nat → Int32))) (r_length : Int32) (r_text : Nat → Int32) : (Int32 → Int32 → Int32 → Int32 → Int32 → Int32 → Int32 → Int32 → Int32 → Int32 → Int32 → Int32 → Int32 → Int32 → Int64 → (Nat → Int32) → (Nat → Int32) → (Nat → Int32) → (Nat → Int32) → (Nat → Int32) → (Nat → Int32) → Option (Int32 × Int32 × Int32 × Int32 × Int32 × Int32 × Int32 × Int32 × Int32 × Int32 × Int32 × Int32 × Int32 × Int32 × Int64 × (Nat → Int32) × (Nat → Int32) × (Nat → Int32) × (Nat → Int32) × (Nat → Int32) × (Nat → Int32))) → Int32 → Int32 → Int32 → Int32 → Int32 → Int32 → Int32 → Int32 → Int32 → Int32 → Int32 → Int32 → Int32 → Int32 → Int64 → (Nat → Int32) → (Nat → Int32) → (Nat → Int32) → (Nat → Int32) → (Nat → Int32) → (Nat → Int32) → Option (Int32 × Int32 × Int32 × Int32 × Int32 × Int32 × Int32 × Int32 × Int32 × Int32 × Int32 × Int32 × Int32 × Int32 × Int64 × (Nat → Int32) × (Nat → Int32) × (Nat → Int32) × (Nat → Int32) × (Nat → Int32) × (Nat → Int32)) := fun rec3 (y2_3 : Int32) (r_fault_3 : Int32) (r_faultAt_3 : Int32) (r_next_3 : Int32) (r_numberFrom_3 : Int32) (b_law_3 : Int32) (b_places_3 : Int32) (b_broad_3 : Int32) (b_horses_3 : Int32) (b_blinds_3 : Int32) (b_besides_3 : Int32) (b_tideCount_3 : Int32) (b_cartCount_3 : Int32) (b_due_3 : Int32) (b_pairs_3 : Int64) (b_pull_3 : Nat → Int32) (b_strength_3 : Nat → Int32) (b_back_3 : Nat → Int32) (b_moods_3 : Nat → Int32) (b_tides_3 : Nat → Int32) (b_carts_3 : Nat → Int32) =>
      if (500 : Int32) ≤ y2_3 then
        K64_2 r_fault_3 r_faultAt_3 r_next_3 r_numberFrom_3 b_law_3 b_places_3 b_broad_3 b_horses_3 b_blinds_3 b_besides_3 b_tideCount_3 b_cartCount_3 b_due_3 b_pairs_3 b_pull_3 b_strength_3 b_back_3 b_moods_3 b_tides_3 b_carts_3
      else
        if r_fault_3 = 0 then
          bn1 (f_X4_skipBlanks r_length r_next_3 r_text) (fun (r_next_4 : Int32) =>
            if r_next_4 < r_length then
              bn20 (f_X4_readClause r_length r_fault_3 r_faultAt_3 r_next_4 r_numberFrom_3 r_text b_law_3 b_places_3 b_broad_3 b_horses_3 b_blinds_3 b_besides_3 b_tideCount_3 b_cartCount_3 b_due_3 b_pairs_3 b_pull_3 b_strength_3 b_back_3 b_moods_3 b_tides_3 b_carts_3) (fun (r_fault_5 : Int32) (r_faultAt_5 : Int32) (r_next_5 : Int32) (r_numberFrom_5 : Int32) (b_law_5 : Int32) (b_places_5 : Int32) (b_broad_5 : Int32) (b_horses_5 : Int32) (b_blinds_5 : Int32) (b_besides_5 : Int32) (b_tideCount_5 : Int32) (b_cartCount_5 : Int32) (b_due_5 : Int32) (b_pairs_5 : Int64) (b_pull_5 : Nat → Int32) (b_strength_5 : Nat → Int32) (b_back_5 : Nat → Int32) (b_moods_5 : Nat → Int32) (b_tides_5 : Nat → Int32) (b_carts_5 : Nat → Int32) =>
                rec3 (y2_3 + (1 : Int32)) r_fault_5 r_faultAt_5 r_next_5 r_numberFrom_5 b_law_5 b_places_5 b_broad_5 b_horses_5 b_blinds_5 b_besides_5 b_tideCount_5 b_cartCount_5 b_due_5 b_pairs_5 b_pull_5 b_strength_5 b_back_5 b_moods_5 b_tides_5 b_carts_5
              )
            else
              K64_2 r_fault_3 r_faultAt_3 r_next_4 r_numberFrom_3 b_law_3 b_places_3 b_broad_3 b_horses_3 b_blinds_3 b_besides_3 b_tideCount_3 b_cartCount_3 b_due_3 b_pairs_3 b_pull_3 b_strength_3 b_back_3 b_moods_3 b_tides_3 b_carts_3
          )
        else
          K64_2 r_fault_3 r_faultAt_3 r_next_3 r_numberFrom_3 b_law_3 b_places_3 b_broad_3 b_horses_3 b_blinds_3 b_besides_3 b_tideCount_3 b_cartCount_3 b_due_3 b_pairs_3 b_pull_3 b_strength_3 b_back_3 b_moods_3 b_tides_3 b_carts_3
def B_X7_findSoonest_1 (c_last : Int32) (K133_1 : Int32 → Int32 → Int32 → Option (Int32 × Int32 × Int32 × Int32)) (n3 : Int32) (c_who : Nat → Int32) (c_pull : Nat → Int32) (u : Nat → Int32) (n2 : Int32) (b_law : Int32) (b_broad : Int32) : (Int32 → Int32 → Int32 → Int32 → Option (Int32 × Int32 × Int32 × Int32)) → Int32 → Int32 → Int32 → Int32 → Option (Int32 × Int32 × Int32 × Int32) := fun rec2 (y4_2 : Int32) (t_crew_2 : Int32) (t_minutes_2 : Int32) (t_oats_2 : Int32) =>
    if c_last < y4_2 then
      K133_1 t_crew_2 t_minutes_2 t_oats_2
    else
      jn1 (fun (z0_3 : Int32) =>
        bn1 (f_X2_takes y4_2 n3 c_who) (fun (r_4 : Int32) =>
          jn1 (fun (z0_5 : Int32) =>
            jn3 (fun (t_crew_6 : Int32) (t_minutes_6 : Int32) (t_oats_6 : Int32) =>
              rec2 (y4_2 + (1 : Int32)) t_crew_6 t_minutes_6 t_oats_6
            ) (fun J127_6 =>
            if z0_5 = (-1 : Int32) then
              J127_6 t_crew_2 t_minutes_2 t_oats_2
            else
              bn1 (f_X2_oats y4_2 z0_5 c_who c_pull u) (fun (r_7 : Int32) =>
                jn1 (fun (u_8 : Unit) =>
                  bn3 (f_X7_take y4_2 z0_5 r_7 t_crew_2 t_minutes_2 t_oats_2) (fun (t_crew_9 : Int32) (t_minutes_9 : Int32) (t_oats_9 : Int32) =>
                    J127_6 t_crew_9 t_minutes_9 t_oats_9
                  )
                ) (fun J117_8 =>
                if t_crew_2 = (-1 : Int32) then
                  J117_8 ()
                else
                  if z0_5 < t_minutes_2 then
                    J117_8 ()
                  else
                    if t_oats_2 ≤ r_7 then
                      J127_6 t_crew_2 t_minutes_2 t_oats_2
                    else
                      J117_8 ()
                )
              )
            )
          ) (fun J69_5 =>
          if r_4 = 0 then
            bn1 (f_X2_minutes y4_2 n2 z0_3 c_who c_pull b_law b_broad u) (fun (r_10 : Int32) =>
              J69_5 r_10
            )
          else
            J69_5 (-1 : Int32)
          )
        )
      ) (fun J37_3 =>
      if t_crew_2 = (-1 : Int32) then
        J37_3 (120 : Int32)
      else
        J37_3 t_minutes_2
      )
def B_X7_findCheapest_1 (c_last : Int32) (K106_1 : Int32 → Int32 → Int32 → Option (Int32 × Int32 × Int32 × Int32)) (b_due : Int32) (n2 : Int32) (c_who : Nat → Int32) (c_pull : Nat → Int32) (b_law : Int32) (b_broad : Int32) (u : Nat → Int32) : (Int32 → Int32 → Int32 → Int32 → Option (Int32 × Int32 × Int32 × Int32)) → Int32 → Int32 → Int32 → Int32 → Option (Int32 × Int32 × Int32 × Int32) := fun rec2 (y3_2 : Int32) (t_crew_2 : Int32) (t_minutes_2 : Int32) (t_oats_2 : Int32) =>
    if c_last < y3_2 then
      K106_1 t_crew_2 t_minutes_2 t_oats_2
    else
      bn1 (f_X0_dueMinutes b_due) (fun (r_3 : Int32) =>
        bn1 (f_X2_minutes y3_2 n2 r_3 c_who c_pull b_law b_broad u) (fun (r_4 : Int32) =>
          jn3 (fun (t_crew_5 : Int32) (t_minutes_5 : Int32) (t_oats_5 : Int32) =>
            rec2 (y3_2 + (1 : Int32)) t_crew_5 t_minutes_5 t_oats_5
          ) (fun J100_5 =>
          if r_4 = (-1 : Int32) then
            J100_5 t_crew_2 t_minutes_2 t_oats_2
          else
            bn1 (f_X2_oats y3_2 r_4 c_who c_pull u) (fun (r_6 : Int32) =>
              jn1 (fun (u_7 : Unit) =>
                bn3 (f_X7_take y3_2 r_4 r_6 t_crew_2 t_minutes_2 t_oats_2) (fun (t_crew_8 : Int32) (t_minutes_8 : Int32) (t_oats_8 : Int32) =>
                  J100_5 t_crew_8 t_minutes_8 t_oats_8
                )
              ) (fun J91_7 =>
              if t_crew_2 = (-1 : Int32) then
                J91_7 ()
              else
                if r_6 < t_oats_2 then
                  J91_7 ()
                else
                  if r_6 = t_oats_2 then
                    if t_minutes_2 ≤ r_4 then
                      J100_5 t_crew_2 t_minutes_2 t_oats_2
                    else
                      J91_7 ()
                  else
                    J100_5 t_crew_2 t_minutes_2 t_oats_2
              )
            )
          )
        )
      )
def B_X7_findSoonestBtrested_1 (c_last : Int32) (K133_1 : Int32 → Int32 → Int32 → Option (Int32 × Int32 × Int32 × Int32)) (n3 : Int32) (c_who : Nat → Int32) (c_pull : Nat → Int32) (t_rested : Nat → Int32) (n2 : Int32) (b_law : Int32) (b_broad : Int32) : (Int32 → Int32 → Int32 → Int32 → Option (Int32 × Int32 × Int32 × Int32)) → Int32 → Int32 → Int32 → Int32 → Option (Int32 × Int32 × Int32 × Int32) := fun rec2 (y4_2 : Int32) (t_crew_2 : Int32) (t_minutes_2 : Int32) (t_oats_2 : Int32) =>
    if c_last < y4_2 then
      K133_1 t_crew_2 t_minutes_2 t_oats_2
    else
      jn1 (fun (z0_3 : Int32) =>
        bn1 (f_X2_takes y4_2 n3 c_who) (fun (r_4 : Int32) =>
          jn1 (fun (z0_5 : Int32) =>
            jn3 (fun (t_crew_6 : Int32) (t_minutes_6 : Int32) (t_oats_6 : Int32) =>
              rec2 (y4_2 + (1 : Int32)) t_crew_6 t_minutes_6 t_oats_6
            ) (fun J127_6 =>
            if z0_5 = (-1 : Int32) then
              J127_6 t_crew_2 t_minutes_2 t_oats_2
            else
              bn1 (f_X2_oats y4_2 z0_5 c_who c_pull t_rested) (fun (r_7 : Int32) =>
                jn1 (fun (u_8 : Unit) =>
                  bn3 (f_X7_take y4_2 z0_5 r_7 t_crew_2 t_minutes_2 t_oats_2) (fun (t_crew_9 : Int32) (t_minutes_9 : Int32) (t_oats_9 : Int32) =>
                    J127_6 t_crew_9 t_minutes_9 t_oats_9
                  )
                ) (fun J117_8 =>
                if t_crew_2 = (-1 : Int32) then
                  J117_8 ()
                else
                  if z0_5 < t_minutes_2 then
                    J117_8 ()
                  else
                    if t_oats_2 ≤ r_7 then
                      J127_6 t_crew_2 t_minutes_2 t_oats_2
                    else
                      J117_8 ()
                )
              )
            )
          ) (fun J69_5 =>
          if r_4 = 0 then
            bn1 (f_X2_minutes y4_2 n2 z0_3 c_who c_pull b_law b_broad t_rested) (fun (r_10 : Int32) =>
              J69_5 r_10
            )
          else
            J69_5 (-1 : Int32)
          )
        )
      ) (fun J37_3 =>
      if t_crew_2 = (-1 : Int32) then
        J37_3 (120 : Int32)
      else
        J37_3 t_minutes_2
      )
def B_X7_findWait_1 (K97_1 : Int32 → Int32 → Int32 → Int32 → Int32 → (Nat → Int32) → Option (Int32 × Int32 × Int32 × Int32 × Int32 × Int32 × (Nat → Int32))) (b_horses : Int32) (b_strength : Nat → Int32) (b_back : Nat → Int32) (u : Nat → Int32) (n2 : Int32) (b_tideCount : Int32) (b_tides : Nat → Int32) (n3 : Int32) (c_last : Int32) (c_who : Nat → Int32) (c_pull : Nat → Int32) (b_law : Int32) (b_broad : Int32) : (Int32 → Int32 → Int32 → Int32 → Int32 → Int32 → (Nat → Int32) → Option (Int32 × Int32 × Int32 × Int32 × Int32 × Int32 × (Nat → Int32))) → Int32 → Int32 → Int32 → Int32 → Int32 → Int32 → (Nat → Int32) → Option (Int32 × Int32 × Int32 × Int32 × Int32 × Int32 × (Nat → Int32)) := fun rec2 (y4_2 : Int32) (t_crew_2 : Int32) (t_minutes_2 : Int32) (t_oats_2 : Int32) (t_waitHours_2 : Int32) (t_waitMinutes_2 : Int32) (t_rested_2 : Nat → Int32) =>
    if (11 : Int32) < y4_2 then
      K97_1 t_crew_2 t_minutes_2 t_oats_2 t_waitHours_2 t_waitMinutes_2 t_rested_2
    else
      bn1 (f_X0_refresh y4_2 b_horses b_strength b_back u t_rested_2) (fun (t_rested_3 : Nat → Int32) =>
        bn1 (f_X0_tideOf (n2 + y4_2) b_tideCount b_tides) (fun (r_4 : Int32) =>
          bn4 (f_X7_findSoonestBtrested (r_4 - n3) (-1 : Int32) t_crew_2 t_minutes_2 t_oats_2 t_rested_3 c_last c_who c_pull b_law b_broad) (fun (r_5 : Int32) (t_crew_5 : Int32) (t_minutes_5 : Int32) (t_oats_5 : Int32) =>
            jn2 (fun (t_waitHours_6 : Int32) (t_waitMinutes_6 : Int32) =>
              rec2 (y4_2 + (1 : Int32)) t_crew_5 t_minutes_5 t_oats_5 t_waitHours_6 t_waitMinutes_6 t_rested_3
            ) (fun J91_6 =>
            if r_5 = 0 then
              J91_6 t_waitHours_2 t_waitMinutes_2
            else
              jn1 (fun (u_7 : Unit) =>
                J91_6 y4_2 t_minutes_5
              ) (fun J77_7 =>
              if t_waitHours_2 = (-1 : Int32) then
                J77_7 ()
              else
                if t_waitMinutes_2 ≤ t_minutes_5 then
                  J91_6 t_waitHours_2 t_waitMinutes_2
                else
                  J77_7 ()
              )
            )
          )
        )
      )
def B_X3_searchSecond_1 (c_last : Int32) (K103_1 : Int32 → Int32 → Int32 → Option (Int32 × Int32 × Int32)) (b_due : Int32) (n3 : Int32) (c_who : Nat → Int32) (c_pull : Nat → Int32) (b_law : Int32) (b_broad : Int32) (p_tired : Nat → Int32) (n1 : Int32) (n2 : Int32) : (Int32 → Int32 → Int32 → Int32 → Option (Int32 × Int32 × Int32)) → Int32 → Int32 → Int32 → Int32 → Option (Int32 × Int32 × Int32) := fun rec2 (y4_2 : Int32) (p_first_2 : Int32) (p_second_2 : Int32) (p_oats_2 : Int32) =>
    if c_last < y4_2 then
      K103_1 p_first_2 p_second_2 p_oats_2
    else
      bn1 (f_X0_dueMinutes b_due) (fun (r_3 : Int32) =>
        bn1 (f_X2_minutes y4_2 n3 r_3 c_who c_pull b_law b_broad p_tired) (fun (r_4 : Int32) =>
          jn3 (fun (p_first_5 : Int32) (p_second_5 : Int32) (p_oats_5 : Int32) =>
            rec2 (y4_2 + (1 : Int32)) p_first_5 p_second_5 p_oats_5
          ) (fun J97_5 =>
          if r_4 = (-1 : Int32) then
            J97_5 p_first_2 p_second_2 p_oats_2
          else
            bn1 (f_X2_oats y4_2 r_4 c_who c_pull p_tired) (fun (r_6 : Int32) =>
              jn1 (fun (u_7 : Unit) =>
                J97_5 n1 y4_2 (n2 + r_6)
              ) (fun J80_7 =>
              if p_first_2 = (-1 : Int32) then
                J80_7 ()
              else
                if p_oats_2 ≤ (n2 + r_6) then
                  J97_5 p_first_2 p_second_2 p_oats_2
                else
                  J80_7 ()
              )
            )
          )
        )
      )
def B_X3_search_1 (c_last : Int32) (K136_3 : Int32 → Int32 → Int32 → (Nat → Int32) → Option (Int32 × Int32 × Int32 × (Nat → Int32))) (b_due : Int32) (r_1 : Int32) (n3 : Int32) (c_who : Nat → Int32) (c_pull : Nat → Int32) (b_law : Int32) (b_broad : Int32) (u : Nat → Int32) (b_horses : Int32) (b_strength : Nat → Int32) (b_back : Nat → Int32) (r_2 : Int32) : (Int32 → Int32 → Int32 → Int32 → (Nat → Int32) → Option (Int32 × Int32 × Int32 × (Nat → Int32))) → Int32 → Int32 → Int32 → Int32 → (Nat → Int32) → Option (Int32 × Int32 × Int32 × (Nat → Int32)) := fun rec4 (y6_4 : Int32) (p_first_4 : Int32) (p_second_4 : Int32) (p_oats_4 : Int32) (p_tired_4 : Nat → Int32) =>
        if c_last < y6_4 then
          K136_3 p_first_4 p_second_4 p_oats_4 p_tired_4
        else
          bn1 (f_X0_dueMinutes b_due) (fun (r_5 : Int32) =>
            bn1 (f_X2_minutes y6_4 (r_1 - n3) r_5 c_who c_pull b_law b_broad u) (fun (r_6 : Int32) =>
              jn4 (fun (p_first_7 : Int32) (p_second_7 : Int32) (p_oats_7 : Int32) (p_tired_7 : Nat → Int32) =>
                rec4 (y6_4 + (1 : Int32)) p_first_7 p_second_7 p_oats_7 p_tired_7
              ) (fun J130_7 =>
              if r_6 = (-1 : Int32) then
                J130_7 p_first_4 p_second_4 p_oats_4 p_tired_4
              else
                bn1 (f_X2_oats y6_4 r_6 c_who c_pull u) (fun (r_8 : Int32) =>
                  jn1 (fun (u_9 : Unit) =>
                    bn1 (f_X2_tire y6_4 r_6 c_who b_horses b_strength b_back u p_tired_4) (fun (p_tired_10 : Nat → Int32) =>
                      bn3 (f_X3_searchSecond y6_4 r_8 (r_2 - n3) p_first_4 p_second_4 p_oats_4 p_tired_10 c_last c_who c_pull b_law b_broad b_due) (fun (p_first_11 : Int32) (p_second_11 : Int32) (p_oats_11 : Int32) =>
                        J130_7 p_first_11 p_second_11 p_oats_11 p_tired_10
                      )
                    )
                  ) (fun J104_9 =>
                  if p_first_4 = (-1 : Int32) then
                    J104_9 ()
                  else
                    if p_oats_4 ≤ r_8 then
                      J130_7 p_first_4 p_second_4 p_oats_4 p_tired_4
                    else
                      J104_9 ()
                  )
                )
              )
            )
          )
def B_X1_weight_1 (b_cartCount : Int32) (K46_1 : Int32 → Option (Int32)) (n1 : Int32) (b_carts : Nat → Int32) : (Int32 → Int32 → Option (Int32)) → Int32 → Int32 → Option (Int32) := fun rec2 (y2_2 : Int32) (y3_2 : Int32) =>
    if b_cartCount ≤ y3_2 then
      K46_1 y2_2
    else
      if (4 : Int32) ≤ y3_2 then
        K46_1 y2_2
      else
        jn1 (fun (y2_3 : Int32) =>
          rec2 y2_3 (y3_2 + (1 : Int32))
        ) (fun J40_3 =>
        if ((n1 >>> (y3_2 &&& 31)) &&& (1 : Int32)) = 0 then
          J40_3 y2_2
        else
          if y3_2 < 0 ∨ 4 ≤ (y3_2).toNatClampNeg then none else
          J40_3 (y2_2 + (b_carts (y3_2).toNatClampNeg))
        )
def B_X1_takeOverD4_1 (n2 : Int32) (K87_1 : Unit → Option (Int32 × (Nat → Int32))) (n3 : Int32) (g_crossings : Int32) : (Int32 → Option (Int32 × (Nat → Int32))) → Int32 → Option (Int32 × (Nat → Int32)) := fun rec2 (y4_2 : Int32) =>
      if n2 < y4_2 then
        K87_1 ()
      else
        jn1 (fun (z0_3 : Int32) =>
          jn1 (fun (u_4 : Unit) =>
            rec2 (y4_2 + (1 : Int32))
          ) (fun J81_4 =>
          if z0_3 = 0 then
            J81_4 ()
          else
            if (y4_2 &&& n2) = y4_2 then
              bn1 (f_X1_takeSetD4 y4_2 n2 n3) (fun (u_5 : Unit) =>
                J81_4 ()
              )
            else
              J81_4 ()
          )
        ) (fun J56_3 =>
        jn1 (fun (u_6 : Unit) =>
          J56_3 (1 : Int32)
        ) (fun J51_6 =>
        if g_crossings = (-1 : Int32) then
          J51_6 ()
        else
          if g_crossings ≤ (5 : Int32) then
            J56_3 (0 : Int32)
          else
            J51_6 ()
        )
        )
def B_X1_takeOverD3_1 (n2 : Int32) (K87_1 : Int32 → (Nat → Int32) → (Nat → Int32) → (Nat → Int32) → Int32 → Int32 → Int32 → Option (Int32 × (Nat → Int32) × (Nat → Int32) × (Nat → Int32) × Int32 × Int32 × Int32)) (n3 : Int32) (g_strengths3 : Nat → Int32) (c_last : Int32) (c_who : Nat → Int32) (c_pull : Nat → Int32) (b_law : Int32) (b_broad : Int32) (b_horses : Int32) (b_tideCount : Int32) (b_cartCount : Int32) (b_strength : Nat → Int32) (b_back : Nat → Int32) (b_tides : Nat → Int32) (b_carts : Nat → Int32) : (Int32 → Int32 → (Nat → Int32) → (Nat → Int32) → (Nat → Int32) → Int32 → Int32 → Int32 → Option (Int32 × (Nat → Int32) × (Nat → Int32) × (Nat → Int32) × Int32 × Int32 × Int32)) → Int32 → Int32 → (Nat → Int32) → (Nat → Int32) → (Nat → Int32) → Int32 → Int32 → Int32 → Option (Int32 × (Nat → Int32) × (Nat → Int32) × (Nat → Int32) × Int32 × Int32 × Int32) := fun rec2 (y4_2 : Int32) (g_crossings_2 : Int32) (g_sets_2 : Nat → Int32) (g_tried_2 : Nat → Int32) (g_strengths4_2 : Nat → Int32) (t_crew_2 : Int32) (t_minutes_2 : Int32) (t_oats_2 : Int32) =>
      if n2 < y4_2 then
        K87_1 g_crossings_2 g_sets_2 g_tried_2 g_strengths4_2 t_crew_2 t_minutes_2 t_oats_2
      else
        jn1 (fun (z0_3 : Int32) =>
          jn7 (fun (g_crossings_4 : Int32) (g_sets_4 : Nat → Int32) (g_tried_4 : Nat → Int32) (g_strengths4_4 : Nat → Int32) (t_crew_4 : Int32) (t_minutes_4 : Int32) (t_oats_4 : Int32) =>
            rec2 (y4_2 + (1 : Int32)) g_crossings_4 g_sets_4 g_tried_4 g_strengths4_4 t_crew_4 t_minutes_4 t_oats_4
          ) (fun J81_4 =>
          if z0_3 = 0 then
            J81_4 g_crossings_2 g_sets_2 g_tried_2 g_strengths4_2 t_crew_2 t_minutes_2 t_oats_2
          else
            if (y4_2 &&& n2) = y4_2 then
              bn7 (f_X1_takeSetD3 y4_2 n2 n3 g_crossings_2 g_sets_2 g_tried_2 g_strengths3 g_strengths4_2 t_crew_2 t_minutes_2 t_oats_2 c_last c_who c_pull b_law b_broad b_horses b_tideCount b_cartCount b_strength b_back b_tides b_carts) (fun (g_crossings_5 : Int32) (g_sets_5 : Nat → Int32) (g_tried_5 : Nat → Int32) (g_strengths4_5 : Nat → Int32) (t_crew_5 : Int32) (t_minutes_5 : Int32) (t_oats_5 : Int32) =>
                J81_4 g_crossings_5 g_sets_5 g_tried_5 g_strengths4_5 t_crew_5 t_minutes_5 t_oats_5
              )
            else
              J81_4 g_crossings_2 g_sets_2 g_tried_2 g_strengths4_2 t_crew_2 t_minutes_2 t_oats_2
          )
        ) (fun J56_3 =>
        jn1 (fun (u_6 : Unit) =>
          J56_3 (1 : Int32)
        ) (fun J51_6 =>
        if g_crossings_2 = (-1 : Int32) then
          J51_6 ()
        else
          if g_crossings_2 ≤ (4 : Int32) then
            J56_3 (0 : Int32)
          else
            J51_6 ()
        )
        )
def B_X1_takeOverD2_1 (n2 : Int32) (K87_1 : Int32 → (Nat → Int32) → (Nat → Int32) → (Nat → Int32) → (Nat → Int32) → Int32 → Int32 → Int32 → Option (Int32 × (Nat → Int32) × (Nat → Int32) × (Nat → Int32) × (Nat → Int32) × Int32 × Int32 × Int32)) (n3 : Int32) (g_strengths2 : Nat → Int32) (c_last : Int32) (c_who : Nat → Int32) (c_pull : Nat → Int32) (b_law : Int32) (b_broad : Int32) (b_horses : Int32) (b_tideCount : Int32) (b_cartCount : Int32) (b_strength : Nat → Int32) (b_back : Nat → Int32) (b_tides : Nat → Int32) (b_carts : Nat → Int32) : (Int32 → Int32 → (Nat → Int32) → (Nat → Int32) → (Nat → Int32) → (Nat → Int32) → Int32 → Int32 → Int32 → Option (Int32 × (Nat → Int32) × (Nat → Int32) × (Nat → Int32) × (Nat → Int32) × Int32 × Int32 × Int32)) → Int32 → Int32 → (Nat → Int32) → (Nat → Int32) → (Nat → Int32) → (Nat → Int32) → Int32 → Int32 → Int32 → Option (Int32 × (Nat → Int32) × (Nat → Int32) × (Nat → Int32) × (Nat → Int32) × Int32 × Int32 × Int32) := fun rec2 (y4_2 : Int32) (g_crossings_2 : Int32) (g_sets_2 : Nat → Int32) (g_tried_2 : Nat → Int32) (g_strengths3_2 : Nat → Int32) (g_strengths4_2 : Nat → Int32) (t_crew_2 : Int32) (t_minutes_2 : Int32) (t_oats_2 : Int32) =>
      if n2 < y4_2 then
        K87_1 g_crossings_2 g_sets_2 g_tried_2 g_strengths3_2 g_strengths4_2 t_crew_2 t_minutes_2 t_oats_2
      else
        jn1 (fun (z0_3 : Int32) =>
          jn8 (fun (g_crossings_4 : Int32) (g_sets_4 : Nat → Int32) (g_tried_4 : Nat → Int32) (g_strengths3_4 : Nat → Int32) (g_strengths4_4 : Nat → Int32) (t_crew_4 : Int32) (t_minutes_4 : Int32) (t_oats_4 : Int32) =>
            rec2 (y4_2 + (1 : Int32)) g_crossings_4 g_sets_4 g_tried_4 g_strengths3_4 g_strengths4_4 t_crew_4 t_minutes_4 t_oats_4
          ) (fun J81_4 =>
          if z0_3 = 0 then
            J81_4 g_crossings_2 g_sets_2 g_tried_2 g_strengths3_2 g_strengths4_2 t_crew_2 t_minutes_2 t_oats_2
          else
            if (y4_2 &&& n2) = y4_2 then
              bn8 (f_X1_takeSetD2 y4_2 n2 n3 g_crossings_2 g_sets_2 g_tried_2 g_strengths2 g_strengths3_2 g_strengths4_2 t_crew_2 t_minutes_2 t_oats_2 c_last c_who c_pull b_law b_broad b_horses b_tideCount b_cartCount b_strength b_back b_tides b_carts) (fun (g_crossings_5 : Int32) (g_sets_5 : Nat → Int32) (g_tried_5 : Nat → Int32) (g_strengths3_5 : Nat → Int32) (g_strengths4_5 : Nat → Int32) (t_crew_5 : Int32) (t_minutes_5 : Int32) (t_oats_5 : Int32) =>
                J81_4 g_crossings_5 g_sets_5 g_tried_5 g_strengths3_5 g_strengths4_5 t_crew_5 t_minutes_5 t_oats_5
              )
            else
              J81_4 g_crossings_2 g_sets_2 g_tried_2 g_strengths3_2 g_strengths4_2 t_crew_2 t_minutes_2 t_oats_2
          )
        ) (fun J56_3 =>
        jn1 (fun (u_6 : Unit) =>
          J56_3 (1 : Int32)
        ) (fun J51_6 =>
        if g_crossings_2 = (-1 : Int32) then
          J51_6 ()
        else
          if g_crossings_2 ≤ (3 : Int32) then
            J56_3 (0 : Int32)
          else
            J51_6 ()
        )
        )
def B_X1_takeOverD1_1 (n2 : Int32) (K87_1 : Int32 → (Nat → Int32) → (Nat → Int32) → (Nat → Int32) → (Nat → Int32) → (Nat → Int32) → Int32 → Int32 → Int32 → Option (Int32 × (Nat → Int32) × (Nat → Int32) × (Nat → Int32) × (Nat → Int32) × (Nat → Int32) × Int32 × Int32 × Int32)) (n3 : Int32) (g_strengths1 : Nat → Int32) (c_last : Int32) (c_who : Nat → Int32) (c_pull : Nat → Int32) (b_law : Int32) (b_broad : Int32) (b_horses : Int32) (b_tideCount : Int32) (b_cartCount : Int32) (b_strength : Nat → Int32) (b_back : Nat → Int32) (b_tides : Nat → Int32) (b_carts : Nat → Int32) : (Int32 → Int32 → (Nat → Int32) → (Nat → Int32) → (Nat → Int32) → (Nat → Int32) → (Nat → Int32) → Int32 → Int32 → Int32 → Option (Int32 × (Nat → Int32) × (Nat → Int32) × (Nat → Int32) × (Nat → Int32) × (Nat → Int32) × Int32 × Int32 × Int32)) → Int32 → Int32 → (Nat → Int32) → (Nat → Int32) → (Nat → Int32) → (Nat → Int32) → (Nat → Int32) → Int32 → Int32 → Int32 → Option (Int32 × (Nat → Int32) × (Nat → Int32) × (Nat → Int32) × (Nat → Int32) × (Nat → Int32) × Int32 × Int32 × Int32) := fun rec2 (y4_2 : Int32) (g_crossings_2 : Int32) (g_sets_2 : Nat → Int32) (g_tried_2 : Nat → Int32) (g_strengths2_2 : Nat → Int32) (g_strengths3_2 : Nat → Int32) (g_strengths4_2 : Nat → Int32) (t_crew_2 : Int32) (t_minutes_2 : Int32) (t_oats_2 : Int32) =>
      if n2 < y4_2 then
        K87_1 g_crossings_2 g_sets_2 g_tried_2 g_strengths2_2 g_strengths3_2 g_strengths4_2 t_crew_2 t_minutes_2 t_oats_2
      else
        jn1 (fun (z0_3 : Int32) =>
          jn9 (fun (g_crossings_4 : Int32) (g_sets_4 : Nat → Int32) (g_tried_4 : Nat → Int32) (g_strengths2_4 : Nat → Int32) (g_strengths3_4 : Nat → Int32) (g_strengths4_4 : Nat → Int32) (t_crew_4 : Int32) (t_minutes_4 : Int32) (t_oats_4 : Int32) =>
            rec2 (y4_2 + (1 : Int32)) g_crossings_4 g_sets_4 g_tried_4 g_strengths2_4 g_strengths3_4 g_strengths4_4 t_crew_4 t_minutes_4 t_oats_4
          ) (fun J81_4 =>
          if z0_3 = 0 then
            J81_4 g_crossings_2 g_sets_2 g_tried_2 g_strengths2_2 g_strengths3_2 g_strengths4_2 t_crew_2 t_minutes_2 t_oats_2
          else
            if (y4_2 &&& n2) = y4_2 then
              bn9 (f_X1_takeSetD1 y4_2 n2 n3 g_crossings_2 g_sets_2 g_tried_2 g_strengths1 g_strengths2_2 g_strengths3_2 g_strengths4_2 t_crew_2 t_minutes_2 t_oats_2 c_last c_who c_pull b_law b_broad b_horses b_tideCount b_cartCount b_strength b_back b_tides b_carts) (fun (g_crossings_5 : Int32) (g_sets_5 : Nat → Int32) (g_tried_5 : Nat → Int32) (g_strengths2_5 : Nat → Int32) (g_strengths3_5 : Nat → Int32) (g_strengths4_5 : Nat → Int32) (t_crew_5 : Int32) (t_minutes_5 : Int32) (t_oats_5 : Int32) =>
                J81_4 g_crossings_5 g_sets_5 g_tried_5 g_strengths2_5 g_strengths3_5 g_strengths4_5 t_crew_5 t_minutes_5 t_oats_5
              )
            else
              J81_4 g_crossings_2 g_sets_2 g_tried_2 g_strengths2_2 g_strengths3_2 g_strengths4_2 t_crew_2 t_minutes_2 t_oats_2
          )
        ) (fun J56_3 =>
        jn1 (fun (u_6 : Unit) =>
          J56_3 (1 : Int32)
        ) (fun J51_6 =>
        if g_crossings_2 = (-1 : Int32) then
          J51_6 ()
        else
          if g_crossings_2 ≤ (2 : Int32) then
            J56_3 (0 : Int32)
          else
            J51_6 ()
        )
        )
def B_X1_takeOverD0_1 (n2 : Int32) (K87_1 : Int32 → (Nat → Int32) → (Nat → Int32) → (Nat → Int32) → (Nat → Int32) → (Nat → Int32) → (Nat → Int32) → Int32 → Int32 → Int32 → Option (Int32 × (Nat → Int32) × (Nat → Int32) × (Nat → Int32) × (Nat → Int32) × (Nat → Int32) × (Nat → Int32) × Int32 × Int32 × Int32)) (n3 : Int32) (g_strengths0 : Nat → Int32) (c_last : Int32) (c_who : Nat → Int32) (c_pull : Nat → Int32) (b_law : Int32) (b_broad : Int32) (b_horses : Int32) (b_tideCount : Int32) (b_cartCount : Int32) (b_strength : Nat → Int32) (b_back : Nat → Int32) (b_tides : Nat → Int32) (b_carts : Nat → Int32) : (Int32 → Int32 → (Nat → Int32) → (Nat → Int32) → (Nat → Int32) → (Nat → Int32) → (Nat → Int32) → (Nat → Int32) → Int32 → Int32 → Int32 → Option (Int32 × (Nat → Int32) × (Nat → Int32) × (Nat → Int32) × (Nat → Int32) × (Nat → Int32) × (Nat → Int32) × Int32 × Int32 × Int32)) → Int32 → Int32 → (Nat → Int32) → (Nat → Int32) → (Nat → Int32) → (Nat → Int32) → (Nat → Int32) → (Nat → Int32) → Int32 → Int32 → Int32 → Option (Int32 × (Nat → Int32) × (Nat → Int32) × (Nat → Int32) × (Nat → Int32) × (Nat → Int32) × (Nat → Int32) × Int32 × Int32 × Int32) := fun rec2 (y4_2 : Int32) (g_crossings_2 : Int32) (g_sets_2 : Nat → Int32) (g_tried_2 : Nat → Int32) (g_strengths1_2 : Nat → Int32) (g_strengths2_2 : Nat → Int32) (g_strengths3_2 : Nat → Int32) (g_strengths4_2 : Nat → Int32) (t_crew_2 : Int32) (t_minutes_2 : Int32) (t_oats_2 : Int32) =>
      if n2 < y4_2 then
        K87_1 g_crossings_2 g_sets_2 g_tried_2 g_strengths1_2 g_strengths2_2 g_strengths3_2 g_strengths4_2 t_crew_2 t_minutes_2 t_oats_2
      else
        jn1 (fun (z0_3 : Int32) =>
          jn10 (fun (g_crossings_4 : Int32) (g_sets_4 : Nat → Int32) (g_tried_4 : Nat → Int32) (g_strengths1_4 : Nat → Int32) (g_strengths2_4 : Nat → Int32) (g_strengths3_4 : Nat → Int32) (g_strengths4_4 : Nat → Int32) (t_crew_4 : Int32) (t_minutes_4 : Int32) (t_oats_4 : Int32) =>
            rec2 (y4_2 + (1 : Int32)) g_crossings_4 g_sets_4 g_tried_4 g_strengths1_4 g_strengths2_4 g_strengths3_4 g_strengths4_4 t_crew_4 t_minutes_4 t_oats_4
          ) (fun J81_4 =>
          if z0_3 = 0 then
            J81_4 g_crossings_2 g_sets_2 g_tried_2 g_strengths1_2 g_strengths2_2 g_strengths3_2 g_strengths4_2 t_crew_2 t_minutes_2 t_oats_2
          else
            if (y4_2 &&& n2) = y4_2 then
              bn10 (f_X1_takeSetD0 y4_2 n2 n3 g_crossings_2 g_sets_2 g_tried_2 g_strengths0 g_strengths1_2 g_strengths2_2 g_strengths3_2 g_strengths4_2 t_crew_2 t_minutes_2 t_oats_2 c_last c_who c_pull b_law b_broad b_horses b_tideCount b_cartCount b_strength b_back b_tides b_carts) (fun (g_crossings_5 : Int32) (g_sets_5 : Nat → Int32) (g_tried_5 : Nat → Int32) (g_strengths1_5 : Nat → Int32) (g_strengths2_5 : Nat → Int32) (g_strengths3_5 : Nat → Int32) (g_strengths4_5 : Nat → Int32) (t_crew_5 : Int32) (t_minutes_5 : Int32) (t_oats_5 : Int32) =>
                J81_4 g_crossings_5 g_sets_5 g_tried_5 g_strengths1_5 g_strengths2_5 g_strengths3_5 g_strengths4_5 t_crew_5 t_minutes_5 t_oats_5
              )
            else
              J81_4 g_crossings_2 g_sets_2 g_tried_2 g_strengths1_2 g_strengths2_2 g_strengths3_2 g_strengths4_2 t_crew_2 t_minutes_2 t_oats_2
          )
        ) (fun J56_3 =>
        jn1 (fun (u_6 : Unit) =>
          J56_3 (1 : Int32)
        ) (fun J51_6 =>
        if g_crossings_2 = (-1 : Int32) then
          J51_6 ()
        else
          if g_crossings_2 ≤ (1 : Int32) then
            J56_3 (0 : Int32)
          else
            J51_6 ()
        )
        )
def B_X2_paceBbstrength_1 (n1 : Int32) (K97_1 : Int32 → Int32 → Int32 → Option (Int32)) (c_who : Nat → Int32) (b_strength : Nat → Int32) (n3 : Int32) (c_pull : Nat → Int32) : (Int32 → Int32 → Int32 → Int32 → Option (Int32)) → Int32 → Int32 → Int32 → Int32 → Option (Int32) := fun rec2 (y4_2 : Int32) (y5_2 : Int32) (y6_2 : Int32) (y7_2 : Int32) =>
    if (n1 + (3 : Int32)) ≤ y7_2 then
      K97_1 y4_2 y5_2 y6_2
    else
      if y7_2 < 0 ∨ 687 ≤ (y7_2).toNatClampNeg then none else
      jn3 (fun (y4_4 : Int32) (y5_4 : Int32) (y6_4 : Int32) =>
        rec2 y4_4 y5_4 y6_4 (y7_2 + (1 : Int32))
      ) (fun J91_4 =>
      if (c_who (y7_2).toNatClampNeg) < 0 then
        J91_4 y4_2 y5_2 y6_2
      else
        if (6 : Int32) ≤ (c_who (y7_2).toNatClampNeg) then
          J91_4 y4_2 y5_2 y6_2
        else
          if (c_who (y7_2).toNatClampNeg) < 0 ∨ 6 ≤ ((c_who (y7_2).toNatClampNeg)).toNatClampNeg then none else
          jn1 (fun (z0_6 : Int32) =>
            jn1 (fun (z0_7 : Int32) =>
              J91_4 (y4_2 + (1 : Int32)) (y5_2 + z0_6) z0_7
            ) (fun J86_7 =>
            if y4_2 = 0 then
              J86_7 z0_6
            else
              J86_7 (if z0_6 < y6_2 then z0_6 else y6_2)
            )
          ) (fun J60_6 =>
          if (b_strength ((c_who (y7_2).toNatClampNeg)).toNatClampNeg) ≤ n3 then
            J60_6 (0 : Int32)
          else
            J60_6 (c_pull (y7_2).toNatClampNeg)
          )
      )
def B_X2_nextLameBbstrength_1 (n1 : Int32) (K61_1 : Int32 → Option (Int32)) (c_who : Nat → Int32) (b_strength : Nat → Int32) (n3 : Int32) : (Int32 → Int32 → Option (Int32)) → Int32 → Int32 → Option (Int32) := fun rec2 (y4_2 : Int32) (y5_2 : Int32) =>
    if (n1 + (3 : Int32)) ≤ y5_2 then
      K61_1 y4_2
    else
      if y5_2 < 0 ∨ 687 ≤ (y5_2).toNatClampNeg then none else
      jn1 (fun (y4_4 : Int32) =>
        rec2 y4_4 (y5_2 + (1 : Int32))
      ) (fun J55_4 =>
      if (c_who (y5_2).toNatClampNeg) < 0 then
        J55_4 y4_2
      else
        if (6 : Int32) ≤ (c_who (y5_2).toNatClampNeg) then
          J55_4 y4_2
        else
          if (c_who (y5_2).toNatClampNeg) < 0 ∨ 6 ≤ ((c_who (y5_2).toNatClampNeg)).toNatClampNeg then none else
          if (b_strength ((c_who (y5_2).toNatClampNeg)).toNatClampNeg) ≤ n3 then
            J55_4 y4_2
          else
            J55_4 (if (b_strength ((c_who (y5_2).toNatClampNeg)).toNatClampNeg) < y4_2 then (b_strength ((c_who (y5_2).toNatClampNeg)).toNatClampNeg) else y4_2)
      )
def B_X2_minutesBbstrength_1 (K125_2 : Unit → Option (Int32)) (n1 : Int32) (c_who : Nat → Int32) (c_pull : Nat → Int32) (b_law : Int32) (b_strength : Nat → Int32) (n3 : Int32) (b_broad : Int32) (n4 : Int32) : (Int32 → Int32 → Int32 → Option (Int32)) → Int32 → Int32 → Int32 → Option (Int32) := fun rec3 (y6_3 : Int32) (y7_3 : Int32) (y8_3 : Int32) =>
        if (3 : Int32) < y8_3 then
          K125_2 ()
        else
          bn1 (f_X2_paceBbstrength (n1 * (3 : Int32)) y6_3 c_who c_pull b_law b_strength) (fun (r_4 : Int32) =>
            if 0 < (r_4 + n3) then
              if (r_4 + n3) = 0 then none else
              if (y6_3 + ((((b_broad - y7_3) + (r_4 + n3)) - (1 : Int32)) / (r_4 + n3))) ≤ n4 then
                bn1 (f_X2_nextLameBbstrength (n1 * (3 : Int32)) y6_3 c_who b_strength) (fun (r_6 : Int32) =>
                  if r_6 < (y6_3 + ((((b_broad - y7_3) + (r_4 + n3)) - (1 : Int32)) / (r_4 + n3))) then
                    rec3 r_6 (y7_3 + ((r_4 + n3) * (r_6 - y6_3))) (y8_3 + (1 : Int32))
                  else
                    some ((y6_3 + ((((b_broad - y7_3) + (r_4 + n3)) - (1 : Int32)) / (r_4 + n3))))
                )
              else
                some ((-1 : Int32))
            else
              some ((-1 : Int32))
          )
def B_X6_firstWrong_1 (m_count : Int32) (K146_1 : (Nat → Int32) → (Nat → Int32) → Option (Int32 × (Nat → Int32) × (Nat → Int32))) (m_who : Nat → Int32) (b_horses : Int32) (b_blinds : Int32) (b_pull : Nat → Int32) (b_moods : Nat → Int32) (m_hours : Nat → Int32) (b_tideCount : Int32) (b_tides : Nat → Int32) (b_law : Int32) (b_broad : Int32) (b_strength : Nat → Int32) (m_minutes : Nat → Int32) (n2 : Int32) (n1 : Int32) : (Int32 → (Nat → Int32) → (Nat → Int32) → Option (Int32 × (Nat → Int32) × (Nat → Int32))) → Int32 → (Nat → Int32) → (Nat → Int32) → Option (Int32 × (Nat → Int32) × (Nat → Int32)) := fun rec2 (y3_2 : Int32) (c_who_2 : Nat → Int32) (c_pull_2 : Nat → Int32) =>
    if m_count ≤ y3_2 then
      K146_1 c_who_2 c_pull_2
    else
      if (10 : Int32) ≤ y3_2 then
        K146_1 c_who_2 c_pull_2
      else
        if (y3_2 * (3 : Int32)) < 0 ∨ 30 ≤ ((y3_2 * (3 : Int32))).toNatClampNeg then none else
        if ((y3_2 * (3 : Int32)) + (1 : Int32)) < 0 ∨ 30 ≤ (((y3_2 * (3 : Int32)) + (1 : Int32))).toNatClampNeg then none else
        if ((y3_2 * (3 : Int32)) + (2 : Int32)) < 0 ∨ 30 ≤ (((y3_2 * (3 : Int32)) + (2 : Int32))).toNatClampNeg then none else
        bn2 (f_X2_seat (0 : Int32) (m_who ((y3_2 * (3 : Int32))).toNatClampNeg) (m_who (((y3_2 * (3 : Int32)) + (1 : Int32))).toNatClampNeg) (m_who (((y3_2 * (3 : Int32)) + (2 : Int32))).toNatClampNeg) c_who_2 c_pull_2 b_horses b_blinds b_pull b_moods) (fun (c_who_6 : Nat → Int32) (c_pull_6 : Nat → Int32) =>
          jn1 (fun (c_pull_7 : Nat → Int32) =>
            if y3_2 < 0 ∨ 10 ≤ (y3_2).toNatClampNeg then none else
            jn1 (fun (z0_9 : Int32) =>
              bn1 (f_X0_tideOf (m_hours (y3_2).toNatClampNeg) b_tideCount b_tides) (fun (r_10 : Int32) =>
                bn1 (f_X2_minutesBbstrength (0 : Int32) r_10 (120 : Int32) c_who_6 c_pull_7 b_law b_broad b_strength) (fun (r_11 : Int32) =>
                  if r_11 = z0_9 then
                    rec2 (y3_2 + (1 : Int32)) c_who_6 c_pull_7
                  else
                    some (y3_2, c_who_6, c_pull_7)
                )
              )
            ) (fun J97_9 =>
            if (m_minutes (y3_2).toNatClampNeg) = 0 then
              J97_9 (-1 : Int32)
            else
              J97_9 (m_minutes (y3_2).toNatClampNeg)
            )
          ) (fun J78_7 =>
          if n2 = 0 then
            bn1 (f_X2_pullHalf n1 c_who_6 c_pull_6) (fun (c_pull_13 : Nat → Int32) =>
              J78_7 c_pull_13
            )
          else
            bn1 (f_X2_pullOtherwise n1 n2 c_who_6 c_pull_6 b_horses b_blinds b_pull b_moods) (fun (c_pull_12 : Nat → Int32) =>
              J78_7 c_pull_12
            )
          )
        )
def B_X8_feed_1 (K67_1 : Int32 → (Nat → Int32) → Option (Int32 × Int32 × (Nat → Int32))) (n2 : Int64) : (Int32 → Int32 → (Nat → Int32) → Option (Int32 × Int32 × (Nat → Int32))) → Int32 → Int32 → (Nat → Int32) → Option (Int32 × Int32 × (Nat → Int32)) := fun rec2 (y4_2 : Int32) (r_length_2 : Int32) (r_text_2 : Nat → Int32) =>
          if y4_2 < 0 then
            K67_1 r_length_2 r_text_2
          else
            bn2 (f_X4_append ((((n2).toUInt64 >>> ((((8 : Int32) * y4_2)).toInt64.toUInt64 &&& Int64.toUInt64 63)).toInt64).toInt32 &&& (255 : Int32)) r_length_2 r_text_2) (fun (r_length_3 : Int32) (r_text_3 : Nat → Int32) =>
              rec2 (y4_2 + (-1 : Int32)) r_length_3 r_text_3
            )
def B_X8_lameSet_1 (b_horses : Int32) (K45_1 : Int32 → Option (Int32)) (s_strength : Nat → Int32) : (Int32 → Int32 → Option (Int32)) → Int32 → Int32 → Option (Int32) := fun rec2 (y1_2 : Int32) (y2_2 : Int32) =>
    if b_horses ≤ y2_2 then
      K45_1 y1_2
    else
      if (6 : Int32) ≤ y2_2 then
        K45_1 y1_2
      else
        if y2_2 < 0 ∨ 6 ≤ (y2_2).toNatClampNeg then none else
        jn1 (fun (y1_4 : Int32) =>
          rec2 y1_4 (y2_2 + (1 : Int32))
        ) (fun J39_4 =>
        if (s_strength (y2_2).toNatClampNeg) = 0 then
          J39_4 (y1_2 ||| ((1 : Int32) <<< (y2_2 &&& 31)))
        else
          J39_4 y1_2
        )
def B_X2_tireA_1 (b_horses : Int32) (K84_1 : (Nat → Int32) → Option ((Nat → Int32))) (n1 : Int32) (c_who : Nat → Int32) (b_back : Nat → Int32) (b_strength : Nat → Int32) (n2 : Int32) : (Int32 → (Nat → Int32) → Option ((Nat → Int32))) → Int32 → (Nat → Int32) → Option ((Nat → Int32)) := fun rec2 (y5_2 : Int32) (u_2 : Nat → Int32) =>
    if b_horses ≤ y5_2 then
      K84_1 u_2
    else
      if (6 : Int32) ≤ y5_2 then
        K84_1 u_2
      else
        bn1 (f_X2_takes n1 y5_2 c_who) (fun (r_3 : Int32) =>
          jn1 (fun (z2_4 : Int32) =>
            if y5_2 < 0 ∨ 6 ≤ (y5_2).toNatClampNeg then none else
            rec2 (y5_2 + (1 : Int32)) (upd u_2 (y5_2).toNatClampNeg z2_4)
          ) (fun J77_4 =>
          if r_3 = 0 then
            if y5_2 < 0 ∨ 6 ≤ (y5_2).toNatClampNeg then none else
            J77_4 (if ((u_2 (y5_2).toNatClampNeg) + (b_back (y5_2).toNatClampNeg)) < (b_strength (y5_2).toNatClampNeg) then ((u_2 (y5_2).toNatClampNeg) + (b_back (y5_2).toNatClampNeg)) else (b_strength (y5_2).toNatClampNeg))
          else
            if y5_2 < 0 ∨ 6 ≤ (y5_2).toNatClampNeg then none else
            J77_4 (if (0 : Int32) < ((u_2 (y5_2).toNatClampNeg) - n2) then ((u_2 (y5_2).toNatClampNeg) - n2) else (0 : Int32))
          )
        )
def B_X0_refreshA_1 (b_horses : Int32) (K53_1 : (Nat → Int32) → Option ((Nat → Int32))) (b_back : Nat → Int32) (n2 : Int32) (b_strength : Nat → Int32) : (Int32 → (Nat → Int32) → Option ((Nat → Int32))) → Int32 → (Nat → Int32) → Option ((Nat → Int32)) := fun rec2 (y4_2 : Int32) (u_2 : Nat → Int32) =>
    if b_horses ≤ y4_2 then
      K53_1 u_2
    else
      if (6 : Int32) ≤ y4_2 then
        K53_1 u_2
      else
        if y4_2 < 0 ∨ 6 ≤ (y4_2).toNatClampNeg then none else
        rec2 (y4_2 + (1 : Int32)) (upd u_2 (y4_2).toNatClampNeg (if ((u_2 (y4_2).toNatClampNeg) + ((b_back (y4_2).toNatClampNeg) * n2)) < (b_strength (y4_2).toNatClampNeg) then ((u_2 (y4_2).toNatClampNeg) + ((b_back (y4_2).toNatClampNeg) * n2)) else (b_strength (y4_2).toNatClampNeg)))
def B_X8_driftDay_1 (b_places : Int32) (K85_2 : Int32 → (Nat → Int32) → Option ((Nat → Int32) × (Nat → Int32) × Int32 × Int32 × Int32 × Int32 × (Nat → Int32) × (Nat → Int32) × Int32 × Int32)) (b_horses : Int32) : (Int32 → Int32 → (Nat → Int32) → Option ((Nat → Int32) × (Nat → Int32) × Int32 × Int32 × Int32 × Int32 × (Nat → Int32) × (Nat → Int32) × Int32 × Int32)) → Int32 → Int32 → (Nat → Int32) → Option ((Nat → Int32) × (Nat → Int32) × Int32 × Int32 × Int32 × Int32 × (Nat → Int32) × (Nat → Int32) × Int32 × Int32) := fun rec9 (y1_9 : Int32) (s_seed_9 : Int32) (s_stands_9 : Nat → Int32) =>
      if b_places ≤ y1_9 then
        K85_2 s_seed_9 s_stands_9
      else
        if (3 : Int32) ≤ y1_9 then
          K85_2 s_seed_9 s_stands_9
        else
          bn2 (f_X5_draw (b_horses + (1 : Int32)) s_seed_9) (fun (r_10 : Int32) (s_seed_10 : Int32) =>
            jn1 (fun (s_stands_11 : Nat → Int32) =>
              rec9 (y1_9 + (1 : Int32)) s_seed_10 s_stands_11
            ) (fun J79_11 =>
            if b_horses ≤ r_10 then
              J79_11 s_stands_9
            else
              bn1 (f_X5_placeOf r_10 s_stands_9) (fun (r_12 : Int32) =>
                if r_12 = (-1 : Int32) then
                  if y1_9 < 0 ∨ 3 ≤ (y1_9).toNatClampNeg then none else
                  J79_11 (upd s_stands_9 (y1_9).toNatClampNeg r_10)
                else
                  J79_11 s_stands_9
              )
            )
          )
def B_X8_drift_1 (n1 : Int32) (K54_1 : (Nat → Int32) → (Nat → Int32) → Int32 → Int32 → Int32 → Int32 → (Nat → Int32) → (Nat → Int32) → Int32 → Int32 → Option (Int32 × (Nat → Int32) × (Nat → Int32) × Int32 × Int32 × Int32 × Int32 × (Nat → Int32) × (Nat → Int32) × Int32 × Int32)) (b_law : Int32) (b_places : Int32) (b_broad : Int32) (b_horses : Int32) (b_blinds : Int32) (b_tideCount : Int32) (b_pull : Nat → Int32) (b_strength : Nat → Int32) (b_back : Nat → Int32) (b_moods : Nat → Int32) (b_tides : Nat → Int32) : (Int32 → (Nat → Int32) → (Nat → Int32) → Int32 → Int32 → Int32 → Int32 → (Nat → Int32) → (Nat → Int32) → Int32 → Int32 → Option (Int32 × (Nat → Int32) × (Nat → Int32) × Int32 × Int32 × Int32 × Int32 × (Nat → Int32) × (Nat → Int32) × Int32 × Int32)) → Int32 → (Nat → Int32) → (Nat → Int32) → Int32 → Int32 → Int32 → Int32 → (Nat → Int32) → (Nat → Int32) → Int32 → Int32 → Option (Int32 × (Nat → Int32) × (Nat → Int32) × Int32 × Int32 × Int32 × Int32 × (Nat → Int32) × (Nat → Int32) × Int32 × Int32) := fun rec2 (y2_2 : Int32) (c_who_2 : Nat → Int32) (c_pull_2 : Nat → Int32) (s_hour_2 : Int32) (s_oats_2 : Int32) (s_missed_2 : Int32) (s_seed_2 : Int32) (s_strength_2 : Nat → Int32) (s_stands_2 : Nat → Int32) (p_known_2 : Int32) (g_known_2 : Int32) =>
            if n1 ≤ y2_2 then
              K54_1 c_who_2 c_pull_2 s_hour_2 s_oats_2 s_missed_2 s_seed_2 s_strength_2 s_stands_2 p_known_2 g_known_2
            else
              bn10 (f_X8_driftDay b_law b_places b_broad b_horses b_blinds b_tideCount b_pull b_strength b_back b_moods b_tides c_who_2 c_pull_2 s_hour_2 s_oats_2 s_missed_2 s_seed_2 s_strength_2 s_stands_2 p_known_2 g_known_2) (fun (c_who_3 : Nat → Int32) (c_pull_3 : Nat → Int32) (s_hour_3 : Int32) (s_oats_3 : Int32) (s_missed_3 : Int32) (s_seed_3 : Int32) (s_strength_3 : Nat → Int32) (s_stands_3 : Nat → Int32) (p_known_3 : Int32) (g_known_3 : Int32) =>
                rec2 (y2_2 + (1 : Int32)) c_who_3 c_pull_3 s_hour_3 s_oats_3 s_missed_3 s_seed_3 s_strength_3 s_stands_3 p_known_3 g_known_3
              )
def B_X8_pulls_1 (K51_2 : Int32 → (Nat → Int32) → (Nat → Int32) → Option (Int32 × (Nat → Int32) × (Nat → Int32))) (n1 : Int32) (m_count : Int32) (m_who : Nat → Int32) (m_hours : Nat → Int32) (m_minutes : Nat → Int32) (b_law : Int32) (b_broad : Int32) (b_horses : Int32) (b_blinds : Int32) (b_tideCount : Int32) (b_pull : Nat → Int32) (b_strength : Nat → Int32) (b_moods : Nat → Int32) (b_tides : Nat → Int32) : (Int32 → Int32 → (Nat → Int32) → (Nat → Int32) → Option (Int32 × (Nat → Int32) × (Nat → Int32))) → Int32 → Int32 → (Nat → Int32) → (Nat → Int32) → Option (Int32 × (Nat → Int32) × (Nat → Int32)) := fun rec3 (y2_3 : Int32) (y3_3 : Int32) (c_who_3 : Nat → Int32) (c_pull_3 : Nat → Int32) =>
        if (30 : Int32) < y3_3 then
          K51_2 y2_3 c_who_3 c_pull_3
        else
          bn3 (f_X6_firstWrong n1 y3_3 m_count m_who m_hours m_minutes c_who_3 c_pull_3 b_law b_broad b_horses b_blinds b_tideCount b_pull b_strength b_moods b_tides) (fun (r_4 : Int32) (c_who_4 : Nat → Int32) (c_pull_4 : Nat → Int32) =>
            jn1 (fun (y2_5 : Int32) =>
              rec3 y2_5 (y3_3 + (1 : Int32)) c_who_4 c_pull_4
            ) (fun J45_5 =>
            if r_4 = (-1 : Int32) then
              J45_5 (y2_3 ||| ((1 : Int32) <<< ((y3_3 - (1 : Int32)) &&& 31)))
            else
              J45_5 y2_3
            )
          )
def B_X8_sham_1 (b_horses : Int32) (K40_1 : Int32 → (Nat → Int32) → (Nat → Int32) → Option (Int32 × (Nat → Int32) × (Nat → Int32))) (m_count : Int32) (m_who : Nat → Int32) (m_hours : Nat → Int32) (m_minutes : Nat → Int32) (b_law : Int32) (b_broad : Int32) (b_blinds : Int32) (b_tideCount : Int32) (b_pull : Nat → Int32) (b_strength : Nat → Int32) (b_moods : Nat → Int32) (b_tides : Nat → Int32) : (Int32 → Int32 → (Nat → Int32) → (Nat → Int32) → Option (Int32 × (Nat → Int32) × (Nat → Int32))) → Int32 → Int32 → (Nat → Int32) → (Nat → Int32) → Option (Int32 × (Nat → Int32) × (Nat → Int32)) := fun rec2 (y1_2 : Int32) (y2_2 : Int32) (c_who_2 : Nat → Int32) (c_pull_2 : Nat → Int32) =>
    if b_horses ≤ y2_2 then
      K40_1 y1_2 c_who_2 c_pull_2
    else
      bn3 (f_X6_firstWrong y2_2 (0 : Int32) m_count m_who m_hours m_minutes c_who_2 c_pull_2 b_law b_broad b_horses b_blinds b_tideCount b_pull b_strength b_moods b_tides) (fun (r_3 : Int32) (c_who_3 : Nat → Int32) (c_pull_3 : Nat → Int32) =>
        jn1 (fun (y1_4 : Int32) =>
          rec2 y1_4 (y2_2 + (1 : Int32)) c_who_3 c_pull_3
        ) (fun J34_4 =>
        if r_3 = (-1 : Int32) then
          J34_4 (y1_2 ||| ((1 : Int32) <<< (y2_2 &&& 31)))
        else
          J34_4 y1_2
        )
      )
def B_X9_feed_1 (n1 : Int32) (K83_2 : Int32 → (Nat → Int32) → Option (Int32 × Int32 × Int32 × (Nat → Int32))) (n2 : Int64) : (Int32 → Int32 → (Nat → Int32) → Option (Int32 × Int32 × Int32 × (Nat → Int32))) → Int32 → Int32 → (Nat → Int32) → Option (Int32 × Int32 × Int32 × (Nat → Int32)) := fun rec3 (y4_3 : Int32) (z_typed_3 : Int32) (z_text_3 : Nat → Int32) =>
          if n1 ≤ y4_3 then
            K83_2 z_typed_3 z_text_3
          else
            if z_typed_3 < 0 ∨ 500 ≤ (z_typed_3).toNatClampNeg then none else
            rec3 (y4_3 + (1 : Int32)) (z_typed_3 + (1 : Int32)) (upd z_text_3 (z_typed_3).toNatClampNeg (((n2 >>> ((((8 : Int32) * ((n1 - (1 : Int32)) - y4_3))).toInt64 &&& 63)) &&& (255 : Int64))).toInt32)
def B_X9_empties_1 (K48_2 : (Nat → Int32) → Option ((Nat → Int32))) : (Int32 → (Nat → Int32) → Option ((Nat → Int32))) → Int32 → (Nat → Int32) → Option ((Nat → Int32)) := fun rec3 (y1_3 : Int32) (u_3 : Nat → Int32) =>
      if (36 : Int32) ≤ y1_3 then
        K48_2 u_3
      else
        if ((32 : Int32) + y1_3) < 0 ∨ 84 ≤ (((32 : Int32) + y1_3)).toNatClampNeg then none else
        rec3 (y1_3 + (1 : Int32)) (upd u_3 (((32 : Int32) + y1_3)).toNatClampNeg (5 : Int32))
def B_X9_empties_2 (K18_1 : (Nat → Int32) → Option ((Nat → Int32))) : (Int32 → (Nat → Int32) → Option ((Nat → Int32))) → Int32 → (Nat → Int32) → Option ((Nat → Int32)) := fun rec5 (y1_5 : Int32) (u_5 : Nat → Int32) =>
    if (84 : Int32) ≤ y1_5 then
      K18_1 u_5
    else
      if y1_5 < 0 ∨ 84 ≤ (y1_5).toNatClampNeg then none else
      rec5 (y1_5 + (1 : Int32)) (upd u_5 (y1_5).toNatClampNeg (0 : Int32))
def B_X9_advances_1 (z_typed : Int32) (z_text : Nat → Int32) (K236_7 : Int32 → Int32 → Option (Int32 × Int32 × Int32 × Int32 × Int32)) (z_next_1 : Int32) : (Int32 → Int32 → Option (Int32 × Int32 × Int32 × Int32 × Int32)) → Int32 → Int32 → Option (Int32 × Int32 × Int32 × Int32 × Int32) := fun rec8 (z_next_8 : Int32) (z_value_8 : Int32) =>
                  bn1 (f_X9_byteAt z_next_8 z_typed z_text) (fun (r_9 : Int32) =>
                    bn1 (f_X9_in r_9 (48 : Int32) (57 : Int32)) (fun (r_10 : Int32) =>
                      if r_10 = 0 then
                        K236_7 z_next_8 z_value_8
                      else
                        jn1 (fun (z1_11 : Int32) =>
                          rec8 (z_next_8 + (1 : Int32)) z1_11
                        ) (fun J220_11 =>
                        if (3 : Int32) ≤ (z_next_8 - z_next_1) then
                          J220_11 z_value_8
                        else
                          bn1 (f_X9_byteAt z_next_8 z_typed z_text) (fun (r_12 : Int32) =>
                            J220_11 ((((10 : Int32) * z_value_8) + r_12) - (48 : Int32))
                          )
                        )
                    )
                  )
def B_X9_advances_2 (z_typed : Int32) (z_text : Nat → Int32) (K130_13 : Int64 → Int32 → Option (Int32 × Int32 × Int32 × Int32 × Int32)) (z_next_1 : Int32) : (Int64 → Int32 → Option (Int32 × Int32 × Int32 × Int32 × Int32)) → Int64 → Int32 → Option (Int32 × Int32 × Int32 × Int32 × Int32) := fun rec15 (y2_15 : Int64) (z_next_15 : Int32) =>
              bn1 (f_X9_byteAt z_next_15 z_typed z_text) (fun (r_16 : Int32) =>
                bn1 (f_X9_in r_16 (97 : Int32) (122 : Int32)) (fun (r_17 : Int32) =>
                  if r_17 = 0 then
                    K130_13 y2_15 z_next_15
                  else
                    jn1 (fun (z0_18 : Int64) =>
                      rec15 z0_18 (z_next_15 + (1 : Int32))
                    ) (fun J116_18 =>
                    if (7 : Int32) ≤ (z_next_15 - z_next_1) then
                      J116_18 (0 : Int64)
                    else
                      bn1 (f_X9_byteAt z_next_15 z_typed z_text) (fun (r_19 : Int32) =>
                        bn1 (f_X9_add y2_15 r_19) (fun (r_20 : Int64) =>
                          J116_18 r_20
                        )
                      )
                    )
                )
              )
def B_X9_advances_3 (z_typed : Int32) (z_text : Nat → Int32) (K26_1 : Int32 → Option (Int32 × Int32 × Int32 × Int32 × Int32)) : (Int32 → Option (Int32 × Int32 × Int32 × Int32 × Int32)) → Int32 → Option (Int32 × Int32 × Int32 × Int32 × Int32) := fun rec21 (z_next_21 : Int32) =>
    bn1 (f_X9_byteAt z_next_21 z_typed z_text) (fun (r_22 : Int32) =>
      if r_22 = (32 : Int32) then
        rec21 (z_next_21 + (1 : Int32))
      else
        K26_1 z_next_21
    )
def B_X9_tide_1 (K106_1 : Int32 → Int32 → Int32 → Int32 → Int32 → Int32 → Int32 → (Nat → Int32) → Option (Int32 × Int32 × Int32 × Int32 × Int32 × Int32 × Int32 × (Nat → Int32))) (z_typed : Int32) (z_text : Nat → Int32) : (Int32 → Int32 → Int32 → Int32 → Int32 → Int32 → Int32 → Int32 → (Nat → Int32) → Option (Int32 × Int32 × Int32 × Int32 × Int32 × Int32 × Int32 × (Nat → Int32))) → Int32 → Int32 → Int32 → Int32 → Int32 → Int32 → Int32 → Int32 → (Nat → Int32) → Option (Int32 × Int32 × Int32 × Int32 × Int32 × Int32 × Int32 × (Nat → Int32)) := fun rec2 (y1_2 : Int32) (z_next_2 : Int32) (z_token_2 : Int32) (z_place_2 : Int32) (z_value_2 : Int32) (z_figures_2 : Int32) (z_fault_2 : Int32) (z_faultAt_2 : Int32) (z_draft_2 : Nat → Int32) =>
    if y1_2 = 0 then
      K106_1 z_next_2 z_token_2 z_place_2 z_value_2 z_figures_2 z_fault_2 z_faultAt_2 z_draft_2
    else
      bn8 (f_X9_number (0 : Int32) (40 : Int32) z_typed z_next_2 z_token_2 z_place_2 z_value_2 z_figures_2 z_fault_2 z_faultAt_2 z_text) (fun (r_3 : Int32) (z_next_3 : Int32) (z_token_3 : Int32) (z_place_3 : Int32) (z_value_3 : Int32) (z_figures_3 : Int32) (z_fault_3 : Int32) (z_faultAt_3 : Int32) =>
        if ((68 : Int32) + (z_draft_2 ((7 : Int32)).toNatClampNeg)) < 0 ∨ 84 ≤ (((68 : Int32) + (z_draft_2 ((7 : Int32)).toNatClampNeg))).toNatClampNeg then none else
        bn1 (f_X9_isWell z_fault_3) (fun (r_5 : Int32) =>
          jn1 (fun (z0_6 : Int32) =>
            jn1 (fun (u_7 : Unit) =>
              if z0_6 = 0 then
                rec2 z0_6 z_next_3 z_token_3 z_place_3 z_value_3 z_figures_3 z_fault_3 z_faultAt_3 (upd (upd z_draft_2 (((68 : Int32) + (z_draft_2 ((7 : Int32)).toNatClampNeg))).toNatClampNeg r_3) ((7 : Int32)).toNatClampNeg (((upd z_draft_2 (((68 : Int32) + (z_draft_2 ((7 : Int32)).toNatClampNeg))).toNatClampNeg r_3) ((7 : Int32)).toNatClampNeg) + (1 : Int32)))
              else
                bn5 (f_X9_advances z_typed z_next_3 z_token_3 z_place_3 z_value_3 z_figures_3 z_text) (fun (z_next_8 : Int32) (z_token_8 : Int32) (z_place_8 : Int32) (z_value_8 : Int32) (z_figures_8 : Int32) =>
                  rec2 z0_6 z_next_8 z_token_8 z_place_8 z_value_8 z_figures_8 z_fault_3 z_faultAt_3 (upd (upd z_draft_2 (((68 : Int32) + (z_draft_2 ((7 : Int32)).toNatClampNeg))).toNatClampNeg r_3) ((7 : Int32)).toNatClampNeg (((upd z_draft_2 (((68 : Int32) + (z_draft_2 ((7 : Int32)).toNatClampNeg))).toNatClampNeg r_3) ((7 : Int32)).toNatClampNeg) + (1 : Int32)))
                )
            ) (fun J95_7 =>
            if z0_6 = 0 then
              J95_7 ()
            else
              if ((upd (upd z_draft_2 (((68 : Int32) + (z_draft_2 ((7 : Int32)).toNatClampNeg))).toNatClampNeg r_3) ((7 : Int32)).toNatClampNeg (((upd z_draft_2 (((68 : Int32) + (z_draft_2 ((7 : Int32)).toNatClampNeg))).toNatClampNeg r_3) ((7 : Int32)).toNatClampNeg) + (1 : Int32))) ((7 : Int32)).toNatClampNeg) = (12 : Int32) then
                bn2 (f_X9_fails (1 : Int32) z_place_3 z_fault_3 z_faultAt_3) (fun (z_fault_9 : Int32) (z_faultAt_9 : Int32) =>
                  rec2 (0 : Int32) z_next_3 z_token_3 z_place_3 z_value_3 z_figures_3 z_fault_9 z_faultAt_9 (upd (upd z_draft_2 (((68 : Int32) + (z_draft_2 ((7 : Int32)).toNatClampNeg))).toNatClampNeg r_3) ((7 : Int32)).toNatClampNeg (((upd z_draft_2 (((68 : Int32) + (z_draft_2 ((7 : Int32)).toNatClampNeg))).toNatClampNeg r_3) ((7 : Int32)).toNatClampNeg) + (1 : Int32)))
                )
              else
                J95_7 ()
            )
          ) (fun J68_6 =>
          jn1 (fun (u_10 : Unit) =>
            J68_6 (0 : Int32)
          ) (fun J67_10 =>
          if r_5 = 0 then
            J67_10 ()
          else
            if z_token_3 = (3 : Int32) then
              if z_value_3 = (44 : Int32) then
                J68_6 (1 : Int32)
              else
                J67_10 ()
            else
              J67_10 ()
          )
          )
        )
      )
def B_X9_anew_1 (K70_2 : (Nat → Int32) → Option (Int32 × (Nat → Int32) × (Nat → Int32))) : (Int32 → (Nat → Int32) → Option (Int32 × (Nat → Int32) × (Nat → Int32))) → Int32 → (Nat → Int32) → Option (Int32 × (Nat → Int32) × (Nat → Int32)) := fun rec3 (y1_3 : Int32) (z_s_3 : Nat → Int32) =>
      if (3 : Int32) ≤ y1_3 then
        K70_2 z_s_3
      else
        if ((6 : Int32) + y1_3) < 0 ∨ 13 ≤ (((6 : Int32) + y1_3)).toNatClampNeg then none else
        rec3 (y1_3 + (1 : Int32)) (upd z_s_3 (((6 : Int32) + y1_3)).toNatClampNeg (-1 : Int32))
def B_X9_anew_2 (K47_1 : (Nat → Int32) → Option (Int32 × (Nat → Int32) × (Nat → Int32))) (z_t : Nat → Int32) : (Int32 → (Nat → Int32) → Option (Int32 × (Nat → Int32) × (Nat → Int32))) → Int32 → (Nat → Int32) → Option (Int32 × (Nat → Int32) × (Nat → Int32)) := fun rec5 (y1_5 : Int32) (z_s_5 : Nat → Int32) =>
    if (6 : Int32) ≤ y1_5 then
      K47_1 z_s_5
    else
      jn1 (fun (z2_6 : Int32) =>
        if y1_5 < 0 ∨ 13 ≤ (y1_5).toNatClampNeg then none else
        rec5 (y1_5 + (1 : Int32)) (upd z_s_5 (y1_5).toNatClampNeg z2_6)
      ) (fun J40_6 =>
      if (z_t ((3 : Int32)).toNatClampNeg) ≤ y1_5 then
        J40_6 (0 : Int32)
      else
        if (((8 : Int32) + ((4 : Int32) * y1_5)) + (1 : Int32)) < 0 ∨ 84 ≤ ((((8 : Int32) + ((4 : Int32) * y1_5)) + (1 : Int32))).toNatClampNeg then none else
        J40_6 (z_t ((((8 : Int32) + ((4 : Int32) * y1_5)) + (1 : Int32))).toNatClampNeg)
      )
def B_X9_ferry_1 (K152_6 : (Nat → Int32) → Option (Int32 × Int32 × Int32 × Int32 × Int32 × Int32 × Int32 × Int32 × Int32 × Int32 × Int32 × Int32 × (Nat → Int32) × (Nat → Int32) × (Nat → Int32) × (Nat → Int32) × (Nat → Int32))) (z_draft_4 : Nat → Int32) : (Int32 → (Nat → Int32) → Option (Int32 × Int32 × Int32 × Int32 × Int32 × Int32 × Int32 × Int32 × Int32 × Int32 × Int32 × Int32 × (Nat → Int32) × (Nat → Int32) × (Nat → Int32) × (Nat → Int32) × (Nat → Int32))) → Int32 → (Nat → Int32) → Option (Int32 × Int32 × Int32 × Int32 × Int32 × Int32 × Int32 × Int32 × Int32 × Int32 × Int32 × Int32 × (Nat → Int32) × (Nat → Int32) × (Nat → Int32) × (Nat → Int32) × (Nat → Int32)) := fun rec8 (y2_8 : Int32) (z_t_8 : Nat → Int32) =>
                if (84 : Int32) ≤ y2_8 then
                  K152_6 z_t_8
                else
                  if y2_8 < 0 ∨ 84 ≤ (y2_8).toNatClampNeg then none else
                  rec8 (y2_8 + (1 : Int32)) (upd z_t_8 (y2_8).toNatClampNeg (z_draft_4 (y2_8).toNatClampNeg))
def B_X9_ferry_2 (K106_4 : Int32 → Int32 → Int32 → Int32 → Int32 → Int32 → Int32 → Int32 → (Nat → Int32) → (Nat → Int32) → Option (Int32 × Int32 × Int32 × Int32 × Int32 × Int32 × Int32 × Int32 × Int32 × Int32 × Int32 × Int32 × (Nat → Int32) × (Nat → Int32) × (Nat → Int32) × (Nat → Int32) × (Nat → Int32))) (z_typed : Int32) (z_text : Nat → Int32) : (Int32 → Int32 → Int32 → Int32 → Int32 → Int32 → Int32 → Int32 → Int32 → (Nat → Int32) → (Nat → Int32) → Option (Int32 × Int32 × Int32 × Int32 × Int32 × Int32 × Int32 × Int32 × Int32 × Int32 × Int32 × Int32 × (Nat → Int32) × (Nat → Int32) × (Nat → Int32) × (Nat → Int32) × (Nat → Int32))) → Int32 → Int32 → Int32 → Int32 → Int32 → Int32 → Int32 → Int32 → Int32 → (Nat → Int32) → (Nat → Int32) → Option (Int32 × Int32 × Int32 × Int32 × Int32 × Int32 × Int32 × Int32 × Int32 × Int32 × Int32 × Int32 × (Nat → Int32) × (Nat → Int32) × (Nat → Int32) × (Nat → Int32) × (Nat → Int32)) := fun rec10 (y1_10 : Int32) (z_next_10 : Int32) (z_token_10 : Int32) (z_place_10 : Int32) (z_value_10 : Int32) (z_figures_10 : Int32) (z_fault_10 : Int32) (z_faultAt_10 : Int32) (z_isDue_10 : Int32) (z_draft_10 : Nat → Int32) (z_pairs_10 : Nat → Int32) =>
          bn1 (f_X9_isWell z_fault_10) (fun (r_11 : Int32) =>
            if r_11 = 0 then
              K106_4 z_next_10 z_token_10 z_place_10 z_value_10 z_figures_10 z_fault_10 z_faultAt_10 z_isDue_10 z_draft_10 z_pairs_10
            else
              if z_token_10 = 0 then
                K106_4 z_next_10 z_token_10 z_place_10 z_value_10 z_figures_10 z_fault_10 z_faultAt_10 z_isDue_10 z_draft_10 z_pairs_10
              else
                bn1 (f_X9_faultOf y1_10 z_token_10 z_value_10 z_isDue_10 z_draft_10) (fun (r_12 : Int32) =>
                  jn10 (fun (z_next_13 : Int32) (z_token_13 : Int32) (z_place_13 : Int32) (z_value_13 : Int32) (z_figures_13 : Int32) (z_fault_13 : Int32) (z_faultAt_13 : Int32) (z_isDue_13 : Int32) (z_draft_13 : Nat → Int32) (z_pairs_13 : Nat → Int32) =>
                    rec10 (0 : Int32) z_next_13 z_token_13 z_place_13 z_value_13 z_figures_13 z_fault_13 z_faultAt_13 z_isDue_13 z_draft_13 z_pairs_13
                  ) (fun J101_13 =>
                  if r_12 ≤ 0 then
                    bn8 (f_X9_takes (1 : Int32) (1 : Int32) z_typed z_next_10 z_token_10 z_place_10 z_value_10 z_figures_10 z_fault_10 z_faultAt_10 z_text) (fun (r_14 : Int32) (z_next_14 : Int32) (z_token_14 : Int32) (z_place_14 : Int32) (z_value_14 : Int32) (z_figures_14 : Int32) (z_fault_14 : Int32) (z_faultAt_14 : Int32) =>
                      bn10 (f_X9_clause r_14 z_typed z_next_14 z_token_14 z_place_14 z_value_14 z_figures_14 z_fault_14 z_faultAt_14 z_isDue_10 z_text z_draft_10 z_pairs_10) (fun (z_next_15 : Int32) (z_token_15 : Int32) (z_place_15 : Int32) (z_value_15 : Int32) (z_figures_15 : Int32) (z_fault_15 : Int32) (z_faultAt_15 : Int32) (z_isDue_15 : Int32) (z_draft_15 : Nat → Int32) (z_pairs_15 : Nat → Int32) =>
                        J101_13 z_next_15 z_token_15 z_place_15 z_value_15 z_figures_15 z_fault_15 z_faultAt_15 z_isDue_15 z_draft_15 z_pairs_15
                      )
                    )
                  else
                    bn2 (f_X9_fails r_12 z_place_10 z_fault_10 z_faultAt_10) (fun (z_fault_16 : Int32) (z_faultAt_16 : Int32) =>
                      J101_13 z_next_10 z_token_10 z_place_10 z_value_10 z_figures_10 z_fault_16 z_faultAt_16 z_isDue_10 z_draft_10 z_pairs_10
                    )
                  )
                )
          )
def B_X9_ferry_3 (K53_2 : (Nat → Int32) → Option (Int32 × Int32 × Int32 × Int32 × Int32 × Int32 × Int32 × Int32 × Int32 × Int32 × Int32 × Int32 × (Nat → Int32) × (Nat → Int32) × (Nat → Int32) × (Nat → Int32) × (Nat → Int32))) : (Int32 → (Nat → Int32) → Option (Int32 × Int32 × Int32 × Int32 × Int32 × Int32 × Int32 × Int32 × Int32 × Int32 × Int32 × Int32 × (Nat → Int32) × (Nat → Int32) × (Nat → Int32) × (Nat → Int32) × (Nat → Int32))) → Int32 → (Nat → Int32) → Option (Int32 × Int32 × Int32 × Int32 × Int32 × Int32 × Int32 × Int32 × Int32 × Int32 × Int32 × Int32 × (Nat → Int32) × (Nat → Int32) × (Nat → Int32) × (Nat → Int32) × (Nat → Int32)) := fun rec17 (y1_17 : Int32) (z_pairs_17 : Nat → Int32) =>
      if (6 : Int32) ≤ y1_17 then
        K53_2 z_pairs_17
      else
        if y1_17 < 0 ∨ 6 ≤ (y1_17).toNatClampNeg then none else
        rec17 (y1_17 + (1 : Int32)) (upd z_pairs_17 (y1_17).toNatClampNeg (0 : Int32))
def B_X9_told_1 (z_t : Nat → Int32) (K142_2 : Int32 → Option (Int32 × Int32)) (z_s : Nat → Int32) : (Int32 → Int32 → Option (Int32 × Int32)) → Int32 → Int32 → Option (Int32 × Int32) := fun rec4 (y2_4 : Int32) (y3_4 : Int32) =>
            if (z_t ((3 : Int32)).toNatClampNeg) ≤ y3_4 then
              K142_2 y2_4
            else
              if y3_4 < 0 ∨ 13 ≤ (y3_4).toNatClampNeg then none else
              jn1 (fun (z1_6 : Int32) =>
                rec4 (y2_4 ||| z1_6) (y3_4 + (1 : Int32))
              ) (fun J134_6 =>
              if (z_s (y3_4).toNatClampNeg) = 0 then
                J134_6 ((1 : Int32) <<< (y3_4 &&& 31))
              else
                J134_6 (0 : Int32)
              )
def B_X9_whereIs_1 (K34_1 : Int32 → Option (Int32)) (z_s : Nat → Int32) (n1 : Int32) : (Int32 → Int32 → Option (Int32)) → Int32 → Int32 → Option (Int32) := fun rec2 (y2_2 : Int32) (y3_2 : Int32) =>
    if (3 : Int32) ≤ y3_2 then
      K34_1 y2_2
    else
      if ((6 : Int32) + y3_2) < 0 ∨ 13 ≤ (((6 : Int32) + y3_2)).toNatClampNeg then none else
      jn1 (fun (z0_4 : Int32) =>
        rec2 z0_4 (y3_2 + (1 : Int32))
      ) (fun J27_4 =>
      if (z_s (((6 : Int32) + y3_2)).toNatClampNeg) = n1 then
        J27_4 y3_2
      else
        J27_4 y2_2
      )
def B_X9_asNow_1 (K54_2 : (Nat → Int32) → Option ((Nat → Int32) × (Nat → Int32))) (z_s : Nat → Int32) : (Int32 → (Nat → Int32) → Option ((Nat → Int32) × (Nat → Int32))) → Int32 → (Nat → Int32) → Option ((Nat → Int32) × (Nat → Int32)) := fun rec3 (y1_3 : Int32) (z_at_3 : Nat → Int32) =>
      if (3 : Int32) ≤ y1_3 then
        K54_2 z_at_3
      else
        if ((6 : Int32) + y1_3) < 0 ∨ 13 ≤ (((6 : Int32) + y1_3)).toNatClampNeg then none else
        if y1_3 < 0 ∨ 3 ≤ (y1_3).toNatClampNeg then none else
        rec3 (y1_3 + (1 : Int32)) (upd z_at_3 (y1_3).toNatClampNeg (z_s (((6 : Int32) + y1_3)).toNatClampNeg))
def B_X9_asNow_2 (K26_1 : (Nat → Int32) → Option ((Nat → Int32) × (Nat → Int32))) (z_s : Nat → Int32) : (Int32 → (Nat → Int32) → Option ((Nat → Int32) × (Nat → Int32))) → Int32 → (Nat → Int32) → Option ((Nat → Int32) × (Nat → Int32)) := fun rec6 (y1_6 : Int32) (z_w_6 : Nat → Int32) =>
    if (6 : Int32) ≤ y1_6 then
      K26_1 z_w_6
    else
      if y1_6 < 0 ∨ 13 ≤ (y1_6).toNatClampNeg then none else
      if y1_6 < 0 ∨ 6 ≤ (y1_6).toNatClampNeg then none else
      rec6 (y1_6 + (1 : Int32)) (upd z_w_6 (y1_6).toNatClampNeg (z_s (y1_6).toNatClampNeg))
def B_X9_paceNow_1 (K99_1 : Int32 → Int32 → Int32 → (Nat → Int32) → Option (Int32 × (Nat → Int32))) (z_half : Int32) (z_t : Nat → Int32) (z_w : Nat → Int32) (z_at : Nat → Int32) : (Int32 → Int32 → Int32 → Int32 → (Nat → Int32) → Option (Int32 × (Nat → Int32))) → Int32 → Int32 → Int32 → Int32 → (Nat → Int32) → Option (Int32 × (Nat → Int32)) := fun rec2 (y1_2 : Int32) (y2_2 : Int32) (y3_2 : Int32) (y4_2 : Int32) (z_pulled_2 : Nat → Int32) =>
    if (3 : Int32) ≤ y4_2 then
      K99_1 y1_2 y2_2 y3_2 z_pulled_2
    else
      bn1 (f_X9_pullAt y4_2 z_half z_t z_w z_at) (fun (r_3 : Int32) =>
        if y4_2 < 0 ∨ 3 ≤ (y4_2).toNatClampNeg then none else
        jn1 (fun (z0_5 : Int32) =>
          jn1 (fun (z1_6 : Int32) =>
            rec2 (y1_2 + ((upd z_pulled_2 (y4_2).toNatClampNeg r_3) (y4_2).toNatClampNeg)) z0_5 (y3_2 + z1_6) (y4_2 + (1 : Int32)) (upd z_pulled_2 (y4_2).toNatClampNeg r_3)
          ) (fun J91_6 =>
          if (z_at (y4_2).toNatClampNeg) = (-1 : Int32) then
            J91_6 (0 : Int32)
          else
            J91_6 (1 : Int32)
          )
        ) (fun J73_5 =>
        jn1 (fun (u_7 : Unit) =>
          J73_5 y2_2
        ) (fun J72_7 =>
        if (z_at (y4_2).toNatClampNeg) = (-1 : Int32) then
          J72_7 ()
        else
          if y2_2 ≤ ((upd z_pulled_2 (y4_2).toNatClampNeg r_3) (y4_2).toNatClampNeg) then
            J72_7 ()
          else
            J73_5 ((upd z_pulled_2 (y4_2).toNatClampNeg r_3) (y4_2).toNatClampNeg)
        )
        )
      )
def B_X9_crosses_1 (K134_1 : Int32 → (Nat → Int32) → (Nat → Int32) → Option (Int32 × Int32 × (Nat → Int32) × (Nat → Int32))) (z_half : Int32) (z_t : Nat → Int32) (z_at : Nat → Int32) (n1 : Int32) (n2 : Int32) : (Int32 → Int32 → Int32 → (Nat → Int32) → (Nat → Int32) → Option (Int32 × Int32 × (Nat → Int32) × (Nat → Int32))) → Int32 → Int32 → Int32 → (Nat → Int32) → (Nat → Int32) → Option (Int32 × Int32 × (Nat → Int32) × (Nat → Int32)) := fun rec2 (y3_2 : Int32) (y4_2 : Int32) (z_eaten_2 : Int32) (z_w_2 : Nat → Int32) (z_pulled_2 : Nat → Int32) =>
    if (121 : Int32) ≤ y4_2 then
      K134_1 z_eaten_2 z_w_2 z_pulled_2
    else
      bn2 (f_X9_paceNow z_half z_t z_w_2 z_at z_pulled_2) (fun (r_3 : Int32) (z_pulled_3 : Nat → Int32) =>
        bn1 (f_X9_tideOf n1 z_t) (fun (r_4 : Int32) =>
          jn1 (fun (z0_5 : Int32) =>
            jn2 (fun (z_eaten_6 : Int32) (z_w_6 : Nat → Int32) =>
              if z0_5 < (z_t ((2 : Int32)).toNatClampNeg) then
                rec2 z0_5 (y4_2 + (1 : Int32)) z_eaten_6 z_w_6 z_pulled_3
              else
                some (y4_2, z_eaten_6, z_w_6, z_pulled_3)
            ) (fun K115_6 =>
            lq3 (fun rec7 (y5_7 : Int32) (z_eaten_7 : Int32) (z_w_7 : Nat → Int32) =>
              if (3 : Int32) ≤ y5_7 then
                K115_6 z_eaten_7 z_w_7
              else
                if y5_7 < 0 ∨ 3 ≤ (y5_7).toNatClampNeg then none else
                jn2 (fun (z_eaten_9 : Int32) (z_w_9 : Nat → Int32) =>
                  rec7 (y5_7 + (1 : Int32)) z_eaten_9 z_w_9
                ) (fun J109_9 =>
                if (z_at (y5_7).toNatClampNeg) = (-1 : Int32) then
                  J109_9 z_eaten_7 z_w_7
                else
                  if (z_at (y5_7).toNatClampNeg) < 0 ∨ 6 ≤ ((z_at (y5_7).toNatClampNeg)).toNatClampNeg then none else
                  if (z_w_7 ((z_at (y5_7).toNatClampNeg)).toNatClampNeg) ≤ 0 then
                    J109_9 z_eaten_7 z_w_7
                  else
                    J109_9 (z_eaten_7 + (z_pulled_3 (y5_7).toNatClampNeg)) (upd z_w_7 ((z_at (y5_7).toNatClampNeg)).toNatClampNeg ((z_w_7 ((z_at (y5_7).toNatClampNeg)).toNatClampNeg) - (1 : Int32)))
                )
            ) fu (0 : Int32) z_eaten_2 z_w_2
            )
          ) (fun J41_5 =>
          if 0 ≤ (y3_2 + ((r_3 + r_4) - n2)) then
            J41_5 (y3_2 + ((r_3 + r_4) - n2))
          else
            J41_5 (0 : Int32)
          )
        )
      )
def B_X9_crosses_2 (K115_6 : Int32 → (Nat → Int32) → Option (Int32 × Int32 × (Nat → Int32) × (Nat → Int32))) (z_at : Nat → Int32) (z_pulled_3 : Nat → Int32) : (Int32 → Int32 → (Nat → Int32) → Option (Int32 × Int32 × (Nat → Int32) × (Nat → Int32))) → Int32 → Int32 → (Nat → Int32) → Option (Int32 × Int32 × (Nat → Int32) × (Nat → Int32)) := fun rec7 (y5_7 : Int32) (z_eaten_7 : Int32) (z_w_7 : Nat → Int32) =>
              if (3 : Int32) ≤ y5_7 then
                K115_6 z_eaten_7 z_w_7
              else
                if y5_7 < 0 ∨ 3 ≤ (y5_7).toNatClampNeg then none else
                jn2 (fun (z_eaten_9 : Int32) (z_w_9 : Nat → Int32) =>
                  rec7 (y5_7 + (1 : Int32)) z_eaten_9 z_w_9
                ) (fun J109_9 =>
                if (z_at (y5_7).toNatClampNeg) = (-1 : Int32) then
                  J109_9 z_eaten_7 z_w_7
                else
                  if (z_at (y5_7).toNatClampNeg) < 0 ∨ 6 ≤ ((z_at (y5_7).toNatClampNeg)).toNatClampNeg then none else
                  if (z_w_7 ((z_at (y5_7).toNatClampNeg)).toNatClampNeg) ≤ 0 then
                    J109_9 z_eaten_7 z_w_7
                  else
                    J109_9 (z_eaten_7 + (z_pulled_3 (y5_7).toNatClampNeg)) (upd z_w_7 ((z_at (y5_7).toNatClampNeg)).toNatClampNeg ((z_w_7 ((z_at (y5_7).toNatClampNeg)).toNatClampNeg) - (1 : Int32)))
                )
def B_X9_rests_1 (z_t : Nat → Int32) (K96_1 : (Nat → Int32) → Option ((Nat → Int32))) (n1 : Int32) (n2 : Int32) (z_at : Nat → Int32) : (Int32 → (Nat → Int32) → Option ((Nat → Int32))) → Int32 → (Nat → Int32) → Option ((Nat → Int32)) := fun rec2 (y3_2 : Int32) (z_w_2 : Nat → Int32) =>
    if (z_t ((3 : Int32)).toNatClampNeg) ≤ y3_2 then
      K96_1 z_w_2
    else
      jn1 (fun (z_w_3 : Nat → Int32) =>
        rec2 (y3_2 + (1 : Int32)) z_w_3
      ) (fun J90_3 =>
      jn1 (fun (u_4 : Unit) =>
        if y3_2 < 0 ∨ 6 ≤ (y3_2).toNatClampNeg then none else
        if (((8 : Int32) + ((4 : Int32) * y3_2)) + (2 : Int32)) < 0 ∨ 84 ≤ ((((8 : Int32) + ((4 : Int32) * y3_2)) + (2 : Int32))).toNatClampNeg then none else
        if (((8 : Int32) + ((4 : Int32) * y3_2)) + (1 : Int32)) < 0 ∨ 84 ≤ ((((8 : Int32) + ((4 : Int32) * y3_2)) + (1 : Int32))).toNatClampNeg then none else
        jn1 (fun (z2_8 : Int32) =>
          J90_3 (upd z_w_2 (y3_2).toNatClampNeg z2_8)
        ) (fun J89_8 =>
        if ((z_w_2 (y3_2).toNatClampNeg) + (n1 * (z_t ((((8 : Int32) + ((4 : Int32) * y3_2)) + (2 : Int32))).toNatClampNeg))) ≤ (z_t ((((8 : Int32) + ((4 : Int32) * y3_2)) + (1 : Int32))).toNatClampNeg) then
          J89_8 ((z_w_2 (y3_2).toNatClampNeg) + (n1 * (z_t ((((8 : Int32) + ((4 : Int32) * y3_2)) + (2 : Int32))).toNatClampNeg)))
        else
          J89_8 (z_t ((((8 : Int32) + ((4 : Int32) * y3_2)) + (1 : Int32))).toNatClampNeg)
        )
      ) (fun J24_4 =>
      if n2 = 0 then
        bn1 (f_X9_isStanding y3_2 z_at) (fun (r_9 : Int32) =>
          if r_9 = 0 then
            J24_4 ()
          else
            J90_3 z_w_2
        )
      else
        J24_4 ()
      )
      )
def B_X9_becomesSo_1 (K26_1 : (Nat → Int32) → Option ((Nat → Int32))) (z_w : Nat → Int32) : (Int32 → (Nat → Int32) → Option ((Nat → Int32))) → Int32 → (Nat → Int32) → Option ((Nat → Int32)) := fun rec2 (y1_2 : Int32) (z_s_2 : Nat → Int32) =>
    if (6 : Int32) ≤ y1_2 then
      K26_1 z_s_2
    else
      if y1_2 < 0 ∨ 6 ≤ (y1_2).toNatClampNeg then none else
      if y1_2 < 0 ∨ 13 ≤ (y1_2).toNatClampNeg then none else
      rec2 (y1_2 + (1 : Int32)) (upd z_s_2 (y1_2).toNatClampNeg (z_w (y1_2).toNatClampNeg))
def B_X9_drift_1 (n1 : Int32) (K188_2 : Int32 → (Nat → Int32) → (Nat → Int32) → (Nat → Int32) → (Nat → Int32) → Option (Int32 × Int32 × Int32 × (Nat → Int32) × (Nat → Int32) × (Nat → Int32) × (Nat → Int32))) (z_t : Nat → Int32) (z_half : Int32) : (Int32 → Int32 → (Nat → Int32) → (Nat → Int32) → (Nat → Int32) → (Nat → Int32) → Option (Int32 × Int32 × Int32 × (Nat → Int32) × (Nat → Int32) × (Nat → Int32) × (Nat → Int32))) → Int32 → Int32 → (Nat → Int32) → (Nat → Int32) → (Nat → Int32) → (Nat → Int32) → Option (Int32 × Int32 × Int32 × (Nat → Int32) × (Nat → Int32) × (Nat → Int32) × (Nat → Int32)) := fun rec3 (y2_3 : Int32) (z_eaten_3 : Int32) (z_s_3 : Nat → Int32) (z_w_3 : Nat → Int32) (z_at_3 : Nat → Int32) (z_pulled_3 : Nat → Int32) =>
            if n1 ≤ y2_3 then
              K188_2 z_eaten_3 z_s_3 z_w_3 z_at_3 z_pulled_3
            else
              jn1 (fun (z_s_4 : Nat → Int32) =>
                jn1 (fun (z_s_5 : Nat → Int32) =>
                  bn2 (f_X9_draw (30 : Int32) z_s_5) (fun (r_6 : Int32) (z_s_6 : Nat → Int32) =>
                    bn1 (f_X9_isNobody z_s_6) (fun (r_7 : Int32) =>
                      jn5 (fun (z_eaten_8 : Int32) (z_s_8 : Nat → Int32) (z_w_8 : Nat → Int32) (z_at_8 : Nat → Int32) (z_pulled_8 : Nat → Int32) =>
                        bn2 (f_X9_draw (4 : Int32) z_s_8) (fun (r_9 : Int32) (z_s_9 : Nat → Int32) =>
                          bn3 (f_X9_rested r_9 z_t z_s_9 z_w_8 z_at_8) (fun (z_s_10 : Nat → Int32) (z_w_10 : Nat → Int32) (z_at_10 : Nat → Int32) =>
                            rec3 (y2_3 + (1 : Int32)) z_eaten_8 z_s_10 z_w_10 z_at_10 z_pulled_8
                          )
                        )
                      ) (fun J169_8 =>
                      if r_7 = 0 then
                        bn6 (f_X9_crossed r_6 z_eaten_3 z_half z_t z_s_6 z_w_3 z_at_3 z_pulled_3) (fun (r_11 : Int32) (z_eaten_11 : Int32) (z_s_11 : Nat → Int32) (z_w_11 : Nat → Int32) (z_at_11 : Nat → Int32) (z_pulled_11 : Nat → Int32) =>
                          J169_8 z_eaten_11 z_s_11 z_w_11 z_at_11 z_pulled_11
                        )
                      else
                        J169_8 z_eaten_3 z_s_6 z_w_3 z_at_3 z_pulled_3
                      )
                    )
                  )
                ) (fun K149_5 =>
                lq2 (fun rec12 (y3_12 : Int32) (z_s_12 : Nat → Int32) =>
                  if (z_t ((0 : Int32)).toNatClampNeg) ≤ y3_12 then
                    K149_5 z_s_12
                  else
                    bn2 (f_X9_draw ((z_t ((3 : Int32)).toNatClampNeg) + (1 : Int32)) z_s_12) (fun (r_13 : Int32) (z_s_13 : Nat → Int32) =>
                      jn1 (fun (z0_14 : Int32) =>
                        jn1 (fun (z2_15 : Int32) =>
                          if ((6 : Int32) + y3_12) < 0 ∨ 13 ≤ (((6 : Int32) + y3_12)).toNatClampNeg then none else
                          rec12 (y3_12 + (1 : Int32)) (upd z_s_13 (((6 : Int32) + y3_12)).toNatClampNeg z2_15)
                        ) (fun J142_15 =>
                        if z0_14 = 0 then
                          J142_15 (-1 : Int32)
                        else
                          J142_15 r_13
                        )
                      ) (fun J121_14 =>
                      jn1 (fun (u_17 : Unit) =>
                        J121_14 (0 : Int32)
                      ) (fun J120_17 =>
                      if (z_t ((3 : Int32)).toNatClampNeg) ≤ r_13 then
                        J120_17 ()
                      else
                        bn1 (f_X9_whereIs r_13 z_s_13) (fun (r_18 : Int32) =>
                          if r_18 = (-1 : Int32) then
                            J121_14 (1 : Int32)
                          else
                            J120_17 ()
                        )
                      )
                      )
                    )
                ) fu (0 : Int32) z_s_4
                )
              ) (fun K69_4 =>
              lq2 (fun rec19 (y3_19 : Int32) (z_s_19 : Nat → Int32) =>
                if (3 : Int32) ≤ y3_19 then
                  K69_4 z_s_19
                else
                  if ((6 : Int32) + y3_19) < 0 ∨ 13 ≤ (((6 : Int32) + y3_19)).toNatClampNeg then none else
                  rec19 (y3_19 + (1 : Int32)) (upd z_s_19 (((6 : Int32) + y3_19)).toNatClampNeg (-1 : Int32))
              ) fu (0 : Int32) z_s_3
              )
def B_X9_drift_2 (z_t : Nat → Int32) (K149_5 : (Nat → Int32) → Option (Int32 × Int32 × Int32 × (Nat → Int32) × (Nat → Int32) × (Nat → Int32) × (Nat → Int32))) : (Int32 → (Nat → Int32) → Option (Int32 × Int32 × Int32 × (Nat → Int32) × (Nat → Int32) × (Nat → Int32) × (Nat → Int32))) → Int32 → (Nat → Int32) → Option (Int32 × Int32 × Int32 × (Nat → Int32) × (Nat → Int32) × (Nat → Int32) × (Nat → Int32)) := fun rec12 (y3_12 : Int32) (z_s_12 : Nat → Int32) =>
                  if (z_t ((0 : Int32)).toNatClampNeg) ≤ y3_12 then
                    K149_5 z_s_12
                  else
                    bn2 (f_X9_draw ((z_t ((3 : Int32)).toNatClampNeg) + (1 : Int32)) z_s_12) (fun (r_13 : Int32) (z_s_13 : Nat → Int32) =>
                      jn1 (fun (z0_14 : Int32) =>
                        jn1 (fun (z2_15 : Int32) =>
                          if ((6 : Int32) + y3_12) < 0 ∨ 13 ≤ (((6 : Int32) + y3_12)).toNatClampNeg then none else
                          rec12 (y3_12 + (1 : Int32)) (upd z_s_13 (((6 : Int32) + y3_12)).toNatClampNeg z2_15)
                        ) (fun J142_15 =>
                        if z0_14 = 0 then
                          J142_15 (-1 : Int32)
                        else
                          J142_15 r_13
                        )
                      ) (fun J121_14 =>
                      jn1 (fun (u_17 : Unit) =>
                        J121_14 (0 : Int32)
                      ) (fun J120_17 =>
                      if (z_t ((3 : Int32)).toNatClampNeg) ≤ r_13 then
                        J120_17 ()
                      else
                        bn1 (f_X9_whereIs r_13 z_s_13) (fun (r_18 : Int32) =>
                          if r_18 = (-1 : Int32) then
                            J121_14 (1 : Int32)
                          else
                            J120_17 ()
                        )
                      )
                      )
                    )
def B_X9_drift_3 (K69_4 : (Nat → Int32) → Option (Int32 × Int32 × Int32 × (Nat → Int32) × (Nat → Int32) × (Nat → Int32) × (Nat → Int32))) : (Int32 → (Nat → Int32) → Option (Int32 × Int32 × Int32 × (Nat → Int32) × (Nat → Int32) × (Nat → Int32) × (Nat → Int32))) → Int32 → (Nat → Int32) → Option (Int32 × Int32 × Int32 × (Nat → Int32) × (Nat → Int32) × (Nat → Int32) × (Nat → Int32)) := fun rec19 (y3_19 : Int32) (z_s_19 : Nat → Int32) =>
                if (3 : Int32) ≤ y3_19 then
                  K69_4 z_s_19
                else
                  if ((6 : Int32) + y3_19) < 0 ∨ 13 ≤ (((6 : Int32) + y3_19)).toNatClampNeg then none else
                  rec19 (y3_19 + (1 : Int32)) (upd z_s_19 (((6 : Int32) + y3_19)).toNatClampNeg (-1 : Int32))
def B_X9_fromNow_1 (K26_1 : (Nat → Int32) → Option ((Nat → Int32))) (z_s : Nat → Int32) : (Int32 → (Nat → Int32) → Option ((Nat → Int32))) → Int32 → (Nat → Int32) → Option ((Nat → Int32)) := fun rec2 (y1_2 : Int32) (z_from_2 : Nat → Int32) =>
    if (6 : Int32) ≤ y1_2 then
      K26_1 z_from_2
    else
      if y1_2 < 0 ∨ 13 ≤ (y1_2).toNatClampNeg then none else
      if y1_2 < 0 ∨ 6 ≤ (y1_2).toNatClampNeg then none else
      rec2 (y1_2 + (1 : Int32)) (upd z_from_2 (y1_2).toNatClampNeg (z_s (y1_2).toNatClampNeg))
def B_X9_puts_1 (K148_2 : Int32 → Option (Int32 × (Nat → Int32))) (z_at : Nat → Int32) (n1 : Int32) (z_t : Nat → Int32) (n2 : Int32) : (Int32 → Int32 → Option (Int32 × (Nat → Int32))) → Int32 → Int32 → Option (Int32 × (Nat → Int32)) := fun rec3 (y4_3 : Int32) (y5_3 : Int32) =>
      if (3 : Int32) ≤ y5_3 then
        K148_2 y4_3
      else
        jn1 (fun (z0_4 : Int32) =>
          jn1 (fun (z0_5 : Int32) =>
            rec3 z0_5 (y5_3 + (1 : Int32))
          ) (fun J140_5 =>
          jn1 (fun (u_6 : Unit) =>
            J140_5 (0 : Int32)
          ) (fun J139_6 =>
          if z0_4 = 0 then
            J139_6 ()
          else
            if y5_3 < 0 ∨ 3 ≤ (y5_3).toNatClampNeg then none else
            jn1 (fun (u_8 : Unit) =>
              J140_5 (1 : Int32)
            ) (fun J135_8 =>
            if ((upd (upd (upd z_at ((0 : Int32)).toNatClampNeg ((n1 / (49 : Int32)) - (1 : Int32))) ((1 : Int32)).toNatClampNeg (((n1 / (7 : Int32)) - (n1 / (7 : Int32)) / (7 : Int32) * (7 : Int32)) - (1 : Int32))) ((2 : Int32)).toNatClampNeg ((n1 - n1 / (7 : Int32) * (7 : Int32)) - (1 : Int32))) (y5_3).toNatClampNeg) = (-1 : Int32) then
              J135_8 ()
            else
              if ((y5_3 + (1 : Int32)) - (y5_3 + (1 : Int32)) / (3 : Int32) * (3 : Int32)) < 0 ∨ 3 ≤ (((y5_3 + (1 : Int32)) - (y5_3 + (1 : Int32)) / (3 : Int32) * (3 : Int32))).toNatClampNeg then none else
              if ((upd (upd (upd z_at ((0 : Int32)).toNatClampNeg ((n1 / (49 : Int32)) - (1 : Int32))) ((1 : Int32)).toNatClampNeg (((n1 / (7 : Int32)) - (n1 / (7 : Int32)) / (7 : Int32) * (7 : Int32)) - (1 : Int32))) ((2 : Int32)).toNatClampNeg ((n1 - n1 / (7 : Int32) * (7 : Int32)) - (1 : Int32))) (y5_3).toNatClampNeg) = ((upd (upd (upd z_at ((0 : Int32)).toNatClampNeg ((n1 / (49 : Int32)) - (1 : Int32))) ((1 : Int32)).toNatClampNeg (((n1 / (7 : Int32)) - (n1 / (7 : Int32)) / (7 : Int32) * (7 : Int32)) - (1 : Int32))) ((2 : Int32)).toNatClampNeg ((n1 - n1 / (7 : Int32) * (7 : Int32)) - (1 : Int32))) (((y5_3 + (1 : Int32)) - (y5_3 + (1 : Int32)) / (3 : Int32) * (3 : Int32))).toNatClampNeg) then
                J139_6 ()
              else
                J135_8 ()
            )
          )
          )
        ) (fun J105_4 =>
        jn1 (fun (u_10 : Unit) =>
          J105_4 (0 : Int32)
        ) (fun J104_10 =>
        if y4_3 = 0 then
          J104_10 ()
        else
          if y5_3 < 0 ∨ 3 ≤ (y5_3).toNatClampNeg then none else
          if (z_t ((3 : Int32)).toNatClampNeg) ≤ ((upd (upd (upd z_at ((0 : Int32)).toNatClampNeg ((n1 / (49 : Int32)) - (1 : Int32))) ((1 : Int32)).toNatClampNeg (((n1 / (7 : Int32)) - (n1 / (7 : Int32)) / (7 : Int32) * (7 : Int32)) - (1 : Int32))) ((2 : Int32)).toNatClampNeg ((n1 - n1 / (7 : Int32) * (7 : Int32)) - (1 : Int32))) (y5_3).toNatClampNeg) then
            J104_10 ()
          else
            jn1 (fun (u_12 : Unit) =>
              J105_4 (1 : Int32)
            ) (fun J100_12 =>
            if ((upd (upd (upd z_at ((0 : Int32)).toNatClampNeg ((n1 / (49 : Int32)) - (1 : Int32))) ((1 : Int32)).toNatClampNeg (((n1 / (7 : Int32)) - (n1 / (7 : Int32)) / (7 : Int32) * (7 : Int32)) - (1 : Int32))) ((2 : Int32)).toNatClampNeg ((n1 - n1 / (7 : Int32) * (7 : Int32)) - (1 : Int32))) (y5_3).toNatClampNeg) = (-1 : Int32) then
              J100_12 ()
            else
              if (z_t ((0 : Int32)).toNatClampNeg) ≤ y5_3 then
                J104_10 ()
              else
                if ((upd (upd (upd z_at ((0 : Int32)).toNatClampNeg ((n1 / (49 : Int32)) - (1 : Int32))) ((1 : Int32)).toNatClampNeg (((n1 / (7 : Int32)) - (n1 / (7 : Int32)) / (7 : Int32) * (7 : Int32)) - (1 : Int32))) ((2 : Int32)).toNatClampNeg ((n1 - n1 / (7 : Int32) * (7 : Int32)) - (1 : Int32))) (y5_3).toNatClampNeg) = n2 then
                  J104_10 ()
                else
                  J100_12 ()
            )
        )
        )
def B_X9_strong_1 (K26_1 : (Nat → Int32) → Option ((Nat → Int32))) (z_from : Nat → Int32) : (Int32 → (Nat → Int32) → Option ((Nat → Int32))) → Int32 → (Nat → Int32) → Option ((Nat → Int32)) := fun rec2 (y1_2 : Int32) (z_w_2 : Nat → Int32) =>
    if (6 : Int32) ≤ y1_2 then
      K26_1 z_w_2
    else
      if y1_2 < 0 ∨ 6 ≤ (y1_2).toNatClampNeg then none else
      rec2 (y1_2 + (1 : Int32)) (upd z_w_2 (y1_2).toNatClampNeg (z_from (y1_2).toNatClampNeg))
def B_X9_keepsBest_1 (K40_1 : (Nat → Int32) → Option (Int32 × Int32 × (Nat → Int32))) (n2 : Int32) (z_at : Nat → Int32) : (Int32 → (Nat → Int32) → Option (Int32 × Int32 × (Nat → Int32))) → Int32 → (Nat → Int32) → Option (Int32 × Int32 × (Nat → Int32)) := fun rec2 (y3_2 : Int32) (z_best_2 : Nat → Int32) =>
    if (3 : Int32) ≤ y3_2 then
      K40_1 z_best_2
    else
      if y3_2 < 0 ∨ 3 ≤ (y3_2).toNatClampNeg then none else
      if (n2 + y3_2) < 0 ∨ 6 ≤ ((n2 + y3_2)).toNatClampNeg then none else
      rec2 (y3_2 + (1 : Int32)) (upd z_best_2 ((n2 + y3_2)).toNatClampNeg (z_at (y3_2).toNatClampNeg))
def B_X9_finds_1 (K158_1 : Int32 → Int32 → Int32 → (Nat → Int32) → (Nat → Int32) → (Nat → Int32) → (Nat → Int32) → Option (Int32 × Int32 × Int32 × Int32 × (Nat → Int32) × (Nat → Int32) × (Nat → Int32) × (Nat → Int32))) (n3 : Int32) (z_t : Nat → Int32) (z_from : Nat → Int32) (n1 : Int32) (n2 : Int32) (z_half : Int32) (n4 : Int32) : (Int32 → Int32 → Int32 → Int32 → (Nat → Int32) → (Nat → Int32) → (Nat → Int32) → (Nat → Int32) → Option (Int32 × Int32 × Int32 × Int32 × (Nat → Int32) × (Nat → Int32) × (Nat → Int32) × (Nat → Int32))) → Int32 → Int32 → Int32 → Int32 → (Nat → Int32) → (Nat → Int32) → (Nat → Int32) → (Nat → Int32) → Option (Int32 × Int32 × Int32 × Int32 × (Nat → Int32) × (Nat → Int32) × (Nat → Int32) × (Nat → Int32)) := fun rec2 (y5_2 : Int32) (z_eaten_2 : Int32) (z_bestMinutes_2 : Int32) (z_bestOats_2 : Int32) (z_w_2 : Nat → Int32) (z_at_2 : Nat → Int32) (z_pulled_2 : Nat → Int32) (z_best_2 : Nat → Int32) =>
    if (343 : Int32) ≤ y5_2 then
      K158_1 z_eaten_2 z_bestMinutes_2 z_bestOats_2 z_w_2 z_at_2 z_pulled_2 z_best_2
    else
      bn2 (f_X9_puts y5_2 n3 z_t z_at_2) (fun (r_3 : Int32) (z_at_3 : Nat → Int32) =>
        jn6 (fun (z_eaten_4 : Int32) (z_bestMinutes_4 : Int32) (z_bestOats_4 : Int32) (z_w_4 : Nat → Int32) (z_pulled_4 : Nat → Int32) (z_best_4 : Nat → Int32) =>
          rec2 (y5_2 + (1 : Int32)) z_eaten_4 z_bestMinutes_4 z_bestOats_4 z_w_4 z_at_3 z_pulled_4 z_best_4
        ) (fun J152_4 =>
        if r_3 = 0 then
          J152_4 z_eaten_2 z_bestMinutes_2 z_bestOats_2 z_w_2 z_pulled_2 z_best_2
        else
          bn1 (f_X9_strong z_w_2 z_from) (fun (z_w_5 : Nat → Int32) =>
            bn4 (f_X9_crosses n1 n2 z_eaten_2 z_half z_t z_w_5 z_at_3 z_pulled_2) (fun (r_6 : Int32) (z_eaten_6 : Int32) (z_w_6 : Nat → Int32) (z_pulled_6 : Nat → Int32) =>
              jn1 (fun (z0_7 : Int32) =>
                jn1 (fun (z0_8 : Int32) =>
                  jn1 (fun (z0_9 : Int32) =>
                    if z0_7 = 0 then
                      J152_4 z_eaten_6 z_bestMinutes_2 z_bestOats_2 z_w_6 z_pulled_6 z_best_2
                    else
                      jn1 (fun (u_10 : Unit) =>
                        bn3 (f_X9_keepsBest r_6 (0 : Int32) z_eaten_6 z_bestMinutes_2 z_bestOats_2 z_at_3 z_best_2) (fun (z_bestMinutes_11 : Int32) (z_bestOats_11 : Int32) (z_best_11 : Nat → Int32) =>
                          J152_4 z_eaten_6 z_bestMinutes_11 z_bestOats_11 z_w_6 z_pulled_6 z_best_11
                        )
                      ) (fun J145_10 =>
                      if z_bestMinutes_2 = 0 then
                        J145_10 ()
                      else
                        if z0_8 < 0 then
                          J145_10 ()
                        else
                          if z0_8 = 0 then
                            if 0 ≤ z0_9 then
                              J152_4 z_eaten_6 z_bestMinutes_2 z_bestOats_2 z_w_6 z_pulled_6 z_best_2
                            else
                              J145_10 ()
                          else
                            J152_4 z_eaten_6 z_bestMinutes_2 z_bestOats_2 z_w_6 z_pulled_6 z_best_2
                      )
                  ) (fun J116_9 =>
                  if n4 = 0 then
                    J116_9 (z_eaten_6 - z_bestOats_2)
                  else
                    J116_9 (r_6 - z_bestMinutes_2)
                  )
                ) (fun J90_8 =>
                if n4 = 0 then
                  J90_8 (r_6 - z_bestMinutes_2)
                else
                  J90_8 (z_eaten_6 - z_bestOats_2)
                )
              ) (fun J64_7 =>
              jn1 (fun (u_12 : Unit) =>
                J64_7 (0 : Int32)
              ) (fun J63_12 =>
              if r_6 ≤ 0 then
                J63_12 ()
              else
                jn1 (fun (u_13 : Unit) =>
                  J64_7 (1 : Int32)
                ) (fun J59_13 =>
                if n4 = 0 then
                  J59_13 ()
                else
                  if (z_t ((5 : Int32)).toNatClampNeg) < r_6 then
                    J63_12 ()
                  else
                    J59_13 ()
                )
              )
              )
            )
          )
        )
      )
def B_X9_second_1 (K153_1 : Int32 → Int32 → (Nat → Int32) → (Nat → Int32) → (Nat → Int32) → (Nat → Int32) → Option (Int32 × Int32 × (Nat → Int32) × (Nat → Int32) × (Nat → Int32) × (Nat → Int32))) (z_t : Nat → Int32) (n1 : Int32) (n2 : Int32) (z_half : Int32) (n3 : Int32) (z_then : Nat → Int32) : (Int32 → Int32 → Int32 → (Nat → Int32) → (Nat → Int32) → (Nat → Int32) → (Nat → Int32) → Option (Int32 × Int32 × (Nat → Int32) × (Nat → Int32) × (Nat → Int32) × (Nat → Int32))) → Int32 → Int32 → Int32 → (Nat → Int32) → (Nat → Int32) → (Nat → Int32) → (Nat → Int32) → Option (Int32 × Int32 × (Nat → Int32) × (Nat → Int32) × (Nat → Int32) × (Nat → Int32)) := fun rec2 (y4_2 : Int32) (y5_2 : Int32) (z_eaten_2 : Int32) (z_w_2 : Nat → Int32) (z_at_2 : Nat → Int32) (z_pulled_2 : Nat → Int32) (z_tryAt_2 : Nat → Int32) =>
    if (343 : Int32) ≤ y5_2 then
      K153_1 y4_2 z_eaten_2 z_w_2 z_at_2 z_pulled_2 z_tryAt_2
    else
      bn2 (f_X9_puts y5_2 (-1 : Int32) z_t z_at_2) (fun (r_3 : Int32) (z_at_3 : Nat → Int32) =>
        jn5 (fun (y4_4 : Int32) (z_eaten_4 : Int32) (z_w_4 : Nat → Int32) (z_pulled_4 : Nat → Int32) (z_tryAt_4 : Nat → Int32) =>
          rec2 y4_4 (y5_2 + (1 : Int32)) z_eaten_4 z_w_4 z_at_3 z_pulled_4 z_tryAt_4
        ) (fun J147_4 =>
        if r_3 = 0 then
          J147_4 y4_2 z_eaten_2 z_w_2 z_pulled_2 z_tryAt_2
        else
          jn1 (fun (z_w_5 : Nat → Int32) =>
            bn4 (f_X9_crosses n1 n2 z_eaten_2 z_half z_t z_w_5 z_at_3 z_pulled_2) (fun (r_6 : Int32) (z_eaten_6 : Int32) (z_w_6 : Nat → Int32) (z_pulled_6 : Nat → Int32) =>
              bn1 (f_X9_in r_6 (1 : Int32) (z_t ((5 : Int32)).toNatClampNeg)) (fun (r_7 : Int32) =>
                if r_7 = 0 then
                  J147_4 y4_2 z_eaten_6 z_w_6 z_pulled_6 z_tryAt_2
                else
                  jn1 (fun (u_8 : Unit) =>
                    jn1 (fun (u_9 : Unit) =>
                      J147_4 z_eaten_6 z_eaten_6 z_w_6 z_pulled_6 (upd (upd (upd z_tryAt_2 ((0 : Int32)).toNatClampNeg (z_at_3 ((0 : Int32)).toNatClampNeg)) ((1 : Int32)).toNatClampNeg (z_at_3 ((1 : Int32)).toNatClampNeg)) ((2 : Int32)).toNatClampNeg (z_at_3 ((2 : Int32)).toNatClampNeg))
                    ) (fun J105_9 =>
                    if n3 = (-1 : Int32) then
                      J105_9 ()
                    else
                      if n3 ≤ z_eaten_6 then
                        J147_4 y4_2 z_eaten_6 z_w_6 z_pulled_6 z_tryAt_2
                      else
                        J105_9 ()
                    )
                  ) (fun J92_8 =>
                  if y4_2 = (-1 : Int32) then
                    J92_8 ()
                  else
                    if y4_2 ≤ z_eaten_6 then
                      J147_4 y4_2 z_eaten_6 z_w_6 z_pulled_6 z_tryAt_2
                    else
                      J92_8 ()
                  )
              )
            )
          ) (fun K54_5 =>
          lq2 (fun rec10 (y6_10 : Int32) (z_w_10 : Nat → Int32) =>
            if (6 : Int32) ≤ y6_10 then
              K54_5 z_w_10
            else
              if y6_10 < 0 ∨ 6 ≤ (y6_10).toNatClampNeg then none else
              rec10 (y6_10 + (1 : Int32)) (upd z_w_10 (y6_10).toNatClampNeg (z_then (y6_10).toNatClampNeg))
          ) fu (0 : Int32) z_w_2
          )
        )
      )
def B_X9_second_2 (K54_5 : (Nat → Int32) → Option (Int32 × Int32 × (Nat → Int32) × (Nat → Int32) × (Nat → Int32) × (Nat → Int32))) (z_then : Nat → Int32) : (Int32 → (Nat → Int32) → Option (Int32 × Int32 × (Nat → Int32) × (Nat → Int32) × (Nat → Int32) × (Nat → Int32))) → Int32 → (Nat → Int32) → Option (Int32 × Int32 × (Nat → Int32) × (Nat → Int32) × (Nat → Int32) × (Nat → Int32)) := fun rec10 (y6_10 : Int32) (z_w_10 : Nat → Int32) =>
            if (6 : Int32) ≤ y6_10 then
              K54_5 z_w_10
            else
              if y6_10 < 0 ∨ 6 ≤ (y6_10).toNatClampNeg then none else
              rec10 (y6_10 + (1 : Int32)) (upd z_w_10 (y6_10).toNatClampNeg (z_then (y6_10).toNatClampNeg))
def B_X9_both_1 (K223_2 : Int32 → Int32 → (Nat → Int32) → (Nat → Int32) → (Nat → Int32) → (Nat → Int32) → (Nat → Int32) → (Nat → Int32) → Option (Int32 × Int32 × (Nat → Int32) × (Nat → Int32) × (Nat → Int32) × (Nat → Int32) × (Nat → Int32) × (Nat → Int32) × (Nat → Int32))) (z_t : Nat → Int32) (z_s : Nat → Int32) (n1 : Int32) (z_half : Int32) (z_from_1 : Nat → Int32) : (Int32 → Int32 → Int32 → (Nat → Int32) → (Nat → Int32) → (Nat → Int32) → (Nat → Int32) → (Nat → Int32) → (Nat → Int32) → Option (Int32 × Int32 × (Nat → Int32) × (Nat → Int32) × (Nat → Int32) × (Nat → Int32) × (Nat → Int32) × (Nat → Int32) × (Nat → Int32))) → Int32 → Int32 → Int32 → (Nat → Int32) → (Nat → Int32) → (Nat → Int32) → (Nat → Int32) → (Nat → Int32) → (Nat → Int32) → Option (Int32 × Int32 × (Nat → Int32) × (Nat → Int32) × (Nat → Int32) × (Nat → Int32) × (Nat → Int32) × (Nat → Int32) × (Nat → Int32)) := fun rec3 (y2_3 : Int32) (y3_3 : Int32) (z_eaten_3 : Int32) (z_w_3 : Nat → Int32) (z_at_3 : Nat → Int32) (z_pulled_3 : Nat → Int32) (z_best_3 : Nat → Int32) (z_then_3 : Nat → Int32) (z_tryAt_3 : Nat → Int32) =>
      if (343 : Int32) ≤ y3_3 then
        K223_2 y2_3 z_eaten_3 z_w_3 z_at_3 z_pulled_3 z_best_3 z_then_3 z_tryAt_3
      else
        bn2 (f_X9_puts y3_3 (-1 : Int32) z_t z_at_3) (fun (r_4 : Int32) (z_at_4 : Nat → Int32) =>
          jn4 (fun (y5_5 : Int32) (z_eaten_5 : Int32) (z_w_5 : Nat → Int32) (z_pulled_5 : Nat → Int32) =>
            jn8 (fun (y2_6 : Int32) (z_eaten_6 : Int32) (z_w_6 : Nat → Int32) (z_at_6 : Nat → Int32) (z_pulled_6 : Nat → Int32) (z_best_6 : Nat → Int32) (z_then_6 : Nat → Int32) (z_tryAt_6 : Nat → Int32) =>
              rec3 y2_6 (y3_3 + (1 : Int32)) z_eaten_6 z_w_6 z_at_6 z_pulled_6 z_best_6 z_then_6 z_tryAt_6
            ) (fun J217_6 =>
            if r_4 = 0 then
              J217_6 y2_3 z_eaten_5 z_w_5 z_at_4 z_pulled_5 z_best_3 z_then_3 z_tryAt_3
            else
              bn1 (f_X9_in y5_5 (1 : Int32) (z_t ((5 : Int32)).toNatClampNeg)) (fun (r_7 : Int32) =>
                if r_7 = 0 then
                  J217_6 y2_3 z_eaten_5 z_w_5 z_at_4 z_pulled_5 z_best_3 z_then_3 z_tryAt_3
                else
                  jn1 (fun (u_8 : Unit) =>
                    bn1 (f_X9_rests (1 : Int32) (0 : Int32) z_t z_w_5 z_at_4) (fun (z_w_9 : Nat → Int32) =>
                      jn1 (fun (z_then_10 : Nat → Int32) =>
                        jn1 (fun (z3_11 : Int32) =>
                          bn6 (f_X9_second ((z_s ((9 : Int32)).toNatClampNeg) + (1 : Int32)) n1 z3_11 z_eaten_5 z_half z_t z_w_9 z_at_4 z_pulled_5 z_then_10 z_tryAt_3) (fun (r_12 : Int32) (z_eaten_12 : Int32) (z_w_12 : Nat → Int32) (z_at_12 : Nat → Int32) (z_pulled_12 : Nat → Int32) (z_tryAt_12 : Nat → Int32) =>
                            if r_12 = (-1 : Int32) then
                              J217_6 y2_3 z_eaten_12 z_w_12 z_at_12 z_pulled_12 z_best_3 z_then_10 z_tryAt_12
                            else
                              bn2 (f_X9_puts y3_3 (-1 : Int32) z_t z_at_12) (fun (r_13 : Int32) (z_at_13 : Nat → Int32) =>
                                lq2 (fun rec15 (y8_15 : Int32) (z_best_15 : Nat → Int32) =>
                                  if (3 : Int32) ≤ y8_15 then
                                    J217_6 (z_eaten_5 + r_12) z_eaten_12 z_w_12 z_at_13 z_pulled_12 z_best_15 z_then_10 z_tryAt_12
                                  else
                                    if y8_15 < 0 ∨ 3 ≤ (y8_15).toNatClampNeg then none else
                                    if y8_15 < 0 ∨ 6 ≤ (y8_15).toNatClampNeg then none else
                                    if ((3 : Int32) + y8_15) < 0 ∨ 6 ≤ (((3 : Int32) + y8_15)).toNatClampNeg then none else
                                    rec15 (y8_15 + (1 : Int32)) (upd (upd z_best_15 (y8_15).toNatClampNeg (z_at_13 (y8_15).toNatClampNeg)) (((3 : Int32) + y8_15)).toNatClampNeg (z_tryAt_12 (y8_15).toNatClampNeg))
                                ) fu (0 : Int32) z_best_3
                              )
                          )
                        ) (fun J148_11 =>
                        if y2_3 = (-1 : Int32) then
                          J148_11 (-1 : Int32)
                        else
                          J148_11 (y2_3 - z_eaten_5)
                        )
                      ) (fun K124_10 =>
                      lq2 (fun rec19 (y7_19 : Int32) (z_then_19 : Nat → Int32) =>
                        if (6 : Int32) ≤ y7_19 then
                          K124_10 z_then_19
                        else
                          if y7_19 < 0 ∨ 6 ≤ (y7_19).toNatClampNeg then none else
                          rec19 (y7_19 + (1 : Int32)) (upd z_then_19 (y7_19).toNatClampNeg (z_w_9 (y7_19).toNatClampNeg))
                      ) fu (0 : Int32) z_then_3
                      )
                    )
                  ) (fun J82_8 =>
                  if y2_3 = (-1 : Int32) then
                    J82_8 ()
                  else
                    if y2_3 ≤ z_eaten_5 then
                      J217_6 y2_3 z_eaten_5 z_w_5 z_at_4 z_pulled_5 z_best_3 z_then_3 z_tryAt_3
                    else
                      J82_8 ()
                  )
              )
            )
          ) (fun J49_5 =>
          if r_4 = 0 then
            J49_5 (0 : Int32) z_eaten_3 z_w_3 z_pulled_3
          else
            bn1 (f_X9_strong z_w_3 z_from_1) (fun (z_w_21 : Nat → Int32) =>
              bn4 (f_X9_crosses (z_s ((9 : Int32)).toNatClampNeg) n1 z_eaten_3 z_half z_t z_w_21 z_at_4 z_pulled_3) (fun (r_22 : Int32) (z_eaten_22 : Int32) (z_w_22 : Nat → Int32) (z_pulled_22 : Nat → Int32) =>
                J49_5 r_22 z_eaten_22 z_w_22 z_pulled_22
              )
            )
          )
        )
def B_X9_both_2 (J217_6 : Int32 → Int32 → (Nat → Int32) → (Nat → Int32) → (Nat → Int32) → (Nat → Int32) → (Nat → Int32) → (Nat → Int32) → Option (Int32 × Int32 × (Nat → Int32) × (Nat → Int32) × (Nat → Int32) × (Nat → Int32) × (Nat → Int32) × (Nat → Int32) × (Nat → Int32))) (z_eaten_5 : Int32) (r_12 : Int32) (z_eaten_12 : Int32) (z_w_12 : Nat → Int32) (z_at_13 : Nat → Int32) (z_pulled_12 : Nat → Int32) (z_then_10 : Nat → Int32) (z_tryAt_12 : Nat → Int32) : (Int32 → (Nat → Int32) → Option (Int32 × Int32 × (Nat → Int32) × (Nat → Int32) × (Nat → Int32) × (Nat → Int32) × (Nat → Int32) × (Nat → Int32) × (Nat → Int32))) → Int32 → (Nat → Int32) → Option (Int32 × Int32 × (Nat → Int32) × (Nat → Int32) × (Nat → Int32) × (Nat → Int32) × (Nat → Int32) × (Nat → Int32) × (Nat → Int32)) := fun rec15 (y8_15 : Int32) (z_best_15 : Nat → Int32) =>
                                  if (3 : Int32) ≤ y8_15 then
                                    J217_6 (z_eaten_5 + r_12) z_eaten_12 z_w_12 z_at_13 z_pulled_12 z_best_15 z_then_10 z_tryAt_12
                                  else
                                    if y8_15 < 0 ∨ 3 ≤ (y8_15).toNatClampNeg then none else
                                    if y8_15 < 0 ∨ 6 ≤ (y8_15).toNatClampNeg then none else
                                    if ((3 : Int32) + y8_15) < 0 ∨ 6 ≤ (((3 : Int32) + y8_15)).toNatClampNeg then none else
                                    rec15 (y8_15 + (1 : Int32)) (upd (upd z_best_15 (y8_15).toNatClampNeg (z_at_13 (y8_15).toNatClampNeg)) (((3 : Int32) + y8_15)).toNatClampNeg (z_tryAt_12 (y8_15).toNatClampNeg))
def B_X9_both_3 (K124_10 : (Nat → Int32) → Option (Int32 × Int32 × (Nat → Int32) × (Nat → Int32) × (Nat → Int32) × (Nat → Int32) × (Nat → Int32) × (Nat → Int32) × (Nat → Int32))) (z_w_9 : Nat → Int32) : (Int32 → (Nat → Int32) → Option (Int32 × Int32 × (Nat → Int32) × (Nat → Int32) × (Nat → Int32) × (Nat → Int32) × (Nat → Int32) × (Nat → Int32) × (Nat → Int32))) → Int32 → (Nat → Int32) → Option (Int32 × Int32 × (Nat → Int32) × (Nat → Int32) × (Nat → Int32) × (Nat → Int32) × (Nat → Int32) × (Nat → Int32) × (Nat → Int32)) := fun rec19 (y7_19 : Int32) (z_then_19 : Nat → Int32) =>
                        if (6 : Int32) ≤ y7_19 then
                          K124_10 z_then_19
                        else
                          if y7_19 < 0 ∨ 6 ≤ (y7_19).toNatClampNeg then none else
                          rec19 (y7_19 + (1 : Int32)) (upd z_then_19 (y7_19).toNatClampNeg (z_w_9 (y7_19).toNatClampNeg))
def B_X9_best_1 (K134_3 : Int32 → Int32 → Int32 → Int32 → Int32 → (Nat → Int32) → (Nat → Int32) → (Nat → Int32) → (Nat → Int32) → (Nat → Int32) → Option (Int32 × Int32 × Int32 × Int32 × Int32 × (Nat → Int32) × (Nat → Int32) × (Nat → Int32) × (Nat → Int32) × (Nat → Int32))) (z_s : Nat → Int32) (z_t : Nat → Int32) (n1 : Int32) (z_half : Int32) : (Int32 → Int32 → Int32 → Int32 → Int32 → Int32 → (Nat → Int32) → (Nat → Int32) → (Nat → Int32) → (Nat → Int32) → (Nat → Int32) → Option (Int32 × Int32 × Int32 × Int32 × Int32 × (Nat → Int32) × (Nat → Int32) × (Nat → Int32) × (Nat → Int32) × (Nat → Int32))) → Int32 → Int32 → Int32 → Int32 → Int32 → Int32 → (Nat → Int32) → (Nat → Int32) → (Nat → Int32) → (Nat → Int32) → (Nat → Int32) → Option (Int32 × Int32 × Int32 × Int32 × Int32 × (Nat → Int32) × (Nat → Int32) × (Nat → Int32) × (Nat → Int32) × (Nat → Int32)) := fun rec4 (y3_4 : Int32) (y4_4 : Int32) (y5_4 : Int32) (z_eaten_4 : Int32) (z_bestMinutes_4 : Int32) (z_bestOats_4 : Int32) (z_w_4 : Nat → Int32) (z_at_4 : Nat → Int32) (z_pulled_4 : Nat → Int32) (z_best_4 : Nat → Int32) (z_from_4 : Nat → Int32) =>
            if (12 : Int32) ≤ y5_4 then
              K134_3 y3_4 y4_4 z_eaten_4 z_bestMinutes_4 z_bestOats_4 z_w_4 z_at_4 z_pulled_4 z_best_4 z_from_4
            else
              bn2 (f_X9_asNow z_s z_w_4 z_at_4) (fun (z_w_5 : Nat → Int32) (z_at_5 : Nat → Int32) =>
                bn1 (f_X9_rests y5_4 (1 : Int32) z_t z_w_5 z_at_5) (fun (z_w_6 : Nat → Int32) =>
                  jn1 (fun (z_from_7 : Nat → Int32) =>
                    bn8 (f_X9_finds ((z_s ((9 : Int32)).toNatClampNeg) + y5_4) n1 (-1 : Int32) (0 : Int32) z_eaten_4 z_half z_bestMinutes_4 z_bestOats_4 z_t z_w_6 z_at_5 z_pulled_4 z_best_4 z_from_7) (fun (r_8 : Int32) (z_eaten_8 : Int32) (z_bestMinutes_8 : Int32) (z_bestOats_8 : Int32) (z_w_8 : Nat → Int32) (z_at_8 : Nat → Int32) (z_pulled_8 : Nat → Int32) (z_best_8 : Nat → Int32) =>
                      jn2 (fun (y3_9 : Int32) (y4_9 : Int32) =>
                        rec4 y3_9 y4_9 (y5_4 + (1 : Int32)) z_eaten_8 z_bestMinutes_8 z_bestOats_8 z_w_8 z_at_8 z_pulled_8 z_best_8 z_from_7
                      ) (fun J128_9 =>
                      if r_8 = 0 then
                        J128_9 y3_4 y4_4
                      else
                        jn1 (fun (u_10 : Unit) =>
                          J128_9 y5_4 z_bestMinutes_8
                        ) (fun J119_10 =>
                        if y4_4 = (-1 : Int32) then
                          J119_10 ()
                        else
                          if y4_4 ≤ z_bestMinutes_8 then
                            J128_9 y3_4 y4_4
                          else
                            J119_10 ()
                        )
                      )
                    )
                  ) (fun K84_7 =>
                  lq2 (fun rec11 (y6_11 : Int32) (z_from_11 : Nat → Int32) =>
                    if (6 : Int32) ≤ y6_11 then
                      K84_7 z_from_11
                    else
                      if y6_11 < 0 ∨ 6 ≤ (y6_11).toNatClampNeg then none else
                      rec11 (y6_11 + (1 : Int32)) (upd z_from_11 (y6_11).toNatClampNeg (z_w_6 (y6_11).toNatClampNeg))
                  ) fu (0 : Int32) z_from_4
                  )
                )
              )
def B_X9_best_2 (K84_7 : (Nat → Int32) → Option (Int32 × Int32 × Int32 × Int32 × Int32 × (Nat → Int32) × (Nat → Int32) × (Nat → Int32) × (Nat → Int32) × (Nat → Int32))) (z_w_6 : Nat → Int32) : (Int32 → (Nat → Int32) → Option (Int32 × Int32 × Int32 × Int32 × Int32 × (Nat → Int32) × (Nat → Int32) × (Nat → Int32) × (Nat → Int32) × (Nat → Int32))) → Int32 → (Nat → Int32) → Option (Int32 × Int32 × Int32 × Int32 × Int32 × (Nat → Int32) × (Nat → Int32) × (Nat → Int32) × (Nat → Int32) × (Nat → Int32)) := fun rec11 (y6_11 : Int32) (z_from_11 : Nat → Int32) =>
                    if (6 : Int32) ≤ y6_11 then
                      K84_7 z_from_11
                    else
                      if y6_11 < 0 ∨ 6 ≤ (y6_11).toNatClampNeg then none else
                      rec11 (y6_11 + (1 : Int32)) (upd z_from_11 (y6_11).toNatClampNeg (z_w_6 (y6_11).toNatClampNeg))
def B_X9_isRow_1 (n2 : Int32) (K101_3 : Int32 → Option (Int32 × (Nat → Int32))) (z_tryRow_2 : Nat → Int32) : (Int32 → Int32 → Option (Int32 × (Nat → Int32))) → Int32 → Int32 → Option (Int32 × (Nat → Int32)) := fun rec4 (y4_4 : Int32) (y5_4 : Int32) =>
        if n2 ≤ y5_4 then
          K101_3 y4_4
        else
          jn1 (fun (z0_5 : Int32) =>
            rec4 z0_5 (y5_4 + (1 : Int32))
          ) (fun J93_5 =>
          jn1 (fun (u_6 : Unit) =>
            J93_5 (0 : Int32)
          ) (fun J92_6 =>
          if y4_4 = 0 then
            J92_6 ()
          else
            if y5_4 < 0 ∨ 4 ≤ (y5_4).toNatClampNeg then none else
            if (z_tryRow_2 (y5_4).toNatClampNeg) = 0 then
              J92_6 ()
            else
              J93_5 (1 : Int32)
          )
          )
def B_X9_isRow_2 (z_t : Nat → Int32) (K61_2 : (Nat → Int32) → Option (Int32 × (Nat → Int32))) (n2 : Int32) : (Int32 → Int32 → (Nat → Int32) → Option (Int32 × (Nat → Int32))) → Int32 → Int32 → (Nat → Int32) → Option (Int32 × (Nat → Int32)) := fun rec8 (y3_8 : Int32) (y4_8 : Int32) (z_tryRow_8 : Nat → Int32) =>
      if (z_t ((4 : Int32)).toNatClampNeg) ≤ y4_8 then
        K61_2 z_tryRow_8
      else
        if n2 = 0 then none else
        if (y3_8 - y3_8 / n2 * n2) < 0 ∨ 4 ≤ ((y3_8 - y3_8 / n2 * n2)).toNatClampNeg then none else
        rec8 (y3_8 / n2) (y4_8 + (1 : Int32)) (upd z_tryRow_8 ((y3_8 - y3_8 / n2 * n2)).toNatClampNeg ((z_tryRow_8 ((y3_8 - y3_8 / n2 * n2)).toNatClampNeg) ||| ((1 : Int32) <<< (y4_8 &&& 31))))
def B_X9_isRow_3 (n2 : Int32) (K20_1 : (Nat → Int32) → Option (Int32 × (Nat → Int32))) : (Int32 → (Nat → Int32) → Option (Int32 × (Nat → Int32))) → Int32 → (Nat → Int32) → Option (Int32 × (Nat → Int32)) := fun rec11 (y3_11 : Int32) (z_tryRow_11 : Nat → Int32) =>
    if n2 ≤ y3_11 then
      K20_1 z_tryRow_11
    else
      if y3_11 < 0 ∨ 4 ≤ (y3_11).toNatClampNeg then none else
      rec11 (y3_11 + (1 : Int32)) (upd z_tryRow_11 (y3_11).toNatClampNeg (0 : Int32))
def B_X9_isAhead_1 (n1 : Int32) (K28_1 : Int32 → Option (Int32)) (z_tryRow : Nat → Int32) (z_cartRow : Nat → Int32) : (Int32 → Option (Int32)) → Int32 → Option (Int32) := fun rec3 (y2_3 : Int32) =>
    if n1 ≤ y2_3 then
      K28_1 y2_3
    else
      if y2_3 < 0 ∨ 4 ≤ (y2_3).toNatClampNeg then none else
      if (z_tryRow (y2_3).toNatClampNeg) = (z_cartRow (y2_3).toNatClampNeg) then
        rec3 (y2_3 + (1 : Int32))
      else
        K28_1 y2_3
def B_X9_loadOf_1 (z_t : Nat → Int32) (K45_1 : Int32 → Option (Int32)) (n1 : Int32) : (Int32 → Int32 → Option (Int32)) → Int32 → Int32 → Option (Int32) := fun rec2 (y2_2 : Int32) (y3_2 : Int32) =>
    if (z_t ((4 : Int32)).toNatClampNeg) ≤ y3_2 then
      K45_1 y2_2
    else
      jn1 (fun (z1_3 : Int32) =>
        rec2 (y2_2 + z1_3) (y3_2 + (1 : Int32))
      ) (fun J37_3 =>
      if ((n1 >>> (y3_2 &&& 31)) &&& (1 : Int32)) = (1 : Int32) then
        if ((80 : Int32) + y3_2) < 0 ∨ 84 ≤ (((80 : Int32) + y3_2)).toNatClampNeg then none else
        J37_3 (z_t (((80 : Int32) + y3_2)).toNatClampNeg)
      else
        J37_3 (0 : Int32)
      )
def B_X9_isOver_1 (n1 : Int32) (K149_2 : Int32 → Int32 → Int32 → Int32 → (Nat → Int32) → (Nat → Int32) → (Nat → Int32) → (Nat → Int32) → (Nat → Int32) → Option (Int32 × Int32 × Int32 × Int32 × (Nat → Int32) × (Nat → Int32) × (Nat → Int32) × (Nat → Int32) × (Nat → Int32))) (z_tryRow : Nat → Int32) (z_t : Nat → Int32) (z_s : Nat → Int32) (z_half : Int32) : (Int32 → Int32 → Int32 → Int32 → Int32 → (Nat → Int32) → (Nat → Int32) → (Nat → Int32) → (Nat → Int32) → (Nat → Int32) → Option (Int32 × Int32 × Int32 × Int32 × (Nat → Int32) × (Nat → Int32) × (Nat → Int32) × (Nat → Int32) × (Nat → Int32))) → Int32 → Int32 → Int32 → Int32 → Int32 → (Nat → Int32) → (Nat → Int32) → (Nat → Int32) → (Nat → Int32) → (Nat → Int32) → Option (Int32 × Int32 × Int32 × Int32 × (Nat → Int32) × (Nat → Int32) × (Nat → Int32) × (Nat → Int32) × (Nat → Int32)) := fun rec3 (y2_3 : Int32) (y3_3 : Int32) (z_eaten_3 : Int32) (z_bestMinutes_3 : Int32) (z_bestOats_3 : Int32) (z_w_3 : Nat → Int32) (z_at_3 : Nat → Int32) (z_pulled_3 : Nat → Int32) (z_best_3 : Nat → Int32) (z_from_3 : Nat → Int32) =>
      if n1 ≤ y3_3 then
        K149_2 y2_3 z_eaten_3 z_bestMinutes_3 z_bestOats_3 z_w_3 z_at_3 z_pulled_3 z_best_3 z_from_3
      else
        if y2_3 = 0 then
          K149_2 y2_3 z_eaten_3 z_bestMinutes_3 z_bestOats_3 z_w_3 z_at_3 z_pulled_3 z_best_3 z_from_3
        else
          if y3_3 < 0 ∨ 4 ≤ (y3_3).toNatClampNeg then none else
          bn1 (f_X9_loadOf (z_tryRow (y3_3).toNatClampNeg) z_t) (fun (r_5 : Int32) =>
            bn8 (f_X9_finds ((z_s ((9 : Int32)).toNatClampNeg) + y3_3) r_5 (-1 : Int32) (0 : Int32) z_eaten_3 z_half z_bestMinutes_3 z_bestOats_3 z_t z_w_3 z_at_3 z_pulled_3 z_best_3 z_from_3) (fun (r_6 : Int32) (z_eaten_6 : Int32) (z_bestMinutes_6 : Int32) (z_bestOats_6 : Int32) (z_w_6 : Nat → Int32) (z_at_6 : Nat → Int32) (z_pulled_6 : Nat → Int32) (z_best_6 : Nat → Int32) =>
              jn5 (fun (z_eaten_7 : Int32) (z_w_7 : Nat → Int32) (z_at_7 : Nat → Int32) (z_pulled_7 : Nat → Int32) (z_from_7 : Nat → Int32) =>
                rec3 r_6 (y3_3 + (1 : Int32)) z_eaten_7 z_bestMinutes_6 z_bestOats_6 z_w_7 z_at_7 z_pulled_7 z_best_6 z_from_7
              ) (fun J143_7 =>
              if r_6 = 0 then
                J143_7 z_eaten_6 z_w_6 z_at_6 z_pulled_6 z_from_3
              else
                bn1 (f_X9_strong z_w_6 z_from_3) (fun (z_w_8 : Nat → Int32) =>
                  bn4 (f_X9_crosses ((z_s ((9 : Int32)).toNatClampNeg) + y3_3) r_5 z_eaten_6 z_half z_t z_w_8 (upd (upd (upd z_at_6 ((0 : Int32)).toNatClampNeg (z_best_6 ((0 : Int32)).toNatClampNeg)) ((1 : Int32)).toNatClampNeg (z_best_6 ((1 : Int32)).toNatClampNeg)) ((2 : Int32)).toNatClampNeg (z_best_6 ((2 : Int32)).toNatClampNeg)) z_pulled_6) (fun (r_9 : Int32) (z_eaten_9 : Int32) (z_w_9 : Nat → Int32) (z_pulled_9 : Nat → Int32) =>
                    bn1 (f_X9_rests (1 : Int32) (0 : Int32) z_t z_w_9 (upd (upd (upd z_at_6 ((0 : Int32)).toNatClampNeg (z_best_6 ((0 : Int32)).toNatClampNeg)) ((1 : Int32)).toNatClampNeg (z_best_6 ((1 : Int32)).toNatClampNeg)) ((2 : Int32)).toNatClampNeg (z_best_6 ((2 : Int32)).toNatClampNeg))) (fun (z_w_10 : Nat → Int32) =>
                      lq2 (fun rec12 (y5_12 : Int32) (z_from_12 : Nat → Int32) =>
                        if (6 : Int32) ≤ y5_12 then
                          J143_7 z_eaten_9 z_w_10 (upd (upd (upd z_at_6 ((0 : Int32)).toNatClampNeg (z_best_6 ((0 : Int32)).toNatClampNeg)) ((1 : Int32)).toNatClampNeg (z_best_6 ((1 : Int32)).toNatClampNeg)) ((2 : Int32)).toNatClampNeg (z_best_6 ((2 : Int32)).toNatClampNeg)) z_pulled_9 z_from_12
                        else
                          if y5_12 < 0 ∨ 6 ≤ (y5_12).toNatClampNeg then none else
                          rec12 (y5_12 + (1 : Int32)) (upd z_from_12 (y5_12).toNatClampNeg (z_w_10 (y5_12).toNatClampNeg))
                      ) fu (0 : Int32) z_from_3
                    )
                  )
                )
              )
            )
          )
def B_X9_isOver_2 (J143_7 : Int32 → (Nat → Int32) → (Nat → Int32) → (Nat → Int32) → (Nat → Int32) → Option (Int32 × Int32 × Int32 × Int32 × (Nat → Int32) × (Nat → Int32) × (Nat → Int32) × (Nat → Int32) × (Nat → Int32))) (z_eaten_9 : Int32) (z_w_10 : Nat → Int32) (z_at_6 : Nat → Int32) (z_best_6 : Nat → Int32) (z_pulled_9 : Nat → Int32) : (Int32 → (Nat → Int32) → Option (Int32 × Int32 × Int32 × Int32 × (Nat → Int32) × (Nat → Int32) × (Nat → Int32) × (Nat → Int32) × (Nat → Int32))) → Int32 → (Nat → Int32) → Option (Int32 × Int32 × Int32 × Int32 × (Nat → Int32) × (Nat → Int32) × (Nat → Int32) × (Nat → Int32) × (Nat → Int32)) := fun rec12 (y5_12 : Int32) (z_from_12 : Nat → Int32) =>
                        if (6 : Int32) ≤ y5_12 then
                          J143_7 z_eaten_9 z_w_10 (upd (upd (upd z_at_6 ((0 : Int32)).toNatClampNeg (z_best_6 ((0 : Int32)).toNatClampNeg)) ((1 : Int32)).toNatClampNeg (z_best_6 ((1 : Int32)).toNatClampNeg)) ((2 : Int32)).toNatClampNeg (z_best_6 ((2 : Int32)).toNatClampNeg)) z_pulled_9 z_from_12
                        else
                          if y5_12 < 0 ∨ 6 ≤ (y5_12).toNatClampNeg then none else
                          rec12 (y5_12 + (1 : Int32)) (upd z_from_12 (y5_12).toNatClampNeg (z_w_10 (y5_12).toNatClampNeg))
def B_X9_fewest_1 (z_t : Nat → Int32) (K153_2 : Int32 → Int32 → Int32 → (Nat → Int32) → (Nat → Int32) → (Nat → Int32) → (Nat → Int32) → (Nat → Int32) → (Nat → Int32) → (Nat → Int32) → Option (Int32 × Int32 × Int32 × Int32 × (Nat → Int32) × (Nat → Int32) × (Nat → Int32) × (Nat → Int32) × (Nat → Int32) × (Nat → Int32) × (Nat → Int32))) (z_half : Int32) (z_s : Nat → Int32) : (Int32 → Int32 → Int32 → Int32 → (Nat → Int32) → (Nat → Int32) → (Nat → Int32) → (Nat → Int32) → (Nat → Int32) → (Nat → Int32) → (Nat → Int32) → Option (Int32 × Int32 × Int32 × Int32 × (Nat → Int32) × (Nat → Int32) × (Nat → Int32) × (Nat → Int32) × (Nat → Int32) × (Nat → Int32) × (Nat → Int32))) → Int32 → Int32 → Int32 → Int32 → (Nat → Int32) → (Nat → Int32) → (Nat → Int32) → (Nat → Int32) → (Nat → Int32) → (Nat → Int32) → (Nat → Int32) → Option (Int32 × Int32 × Int32 × Int32 × (Nat → Int32) × (Nat → Int32) × (Nat → Int32) × (Nat → Int32) × (Nat → Int32) × (Nat → Int32) × (Nat → Int32)) := fun rec3 (y1_3 : Int32) (z_eaten_3 : Int32) (z_bestMinutes_3 : Int32) (z_bestOats_3 : Int32) (z_w_3 : Nat → Int32) (z_at_3 : Nat → Int32) (z_pulled_3 : Nat → Int32) (z_best_3 : Nat → Int32) (z_cartRow_3 : Nat → Int32) (z_tryRow_3 : Nat → Int32) (z_from_3 : Nat → Int32) =>
      if (z_t ((4 : Int32)).toNatClampNeg) < y1_3 then
        K153_2 z_eaten_3 z_bestMinutes_3 z_bestOats_3 z_w_3 z_at_3 z_pulled_3 z_best_3 z_cartRow_3 z_tryRow_3 z_from_3
      else
        jn1 (fun (z0_4 : Int32) =>
          jn1 (fun (y3_5 : Int32) =>
            jn11 (fun (y2_6 : Int32) (z_eaten_6 : Int32) (z_bestMinutes_6 : Int32) (z_bestOats_6 : Int32) (z_w_6 : Nat → Int32) (z_at_6 : Nat → Int32) (z_pulled_6 : Nat → Int32) (z_best_6 : Nat → Int32) (z_cartRow_6 : Nat → Int32) (z_tryRow_6 : Nat → Int32) (z_from_6 : Nat → Int32) =>
              if y2_6 = 0 then
                rec3 (y1_3 + (1 : Int32)) z_eaten_6 z_bestMinutes_6 z_bestOats_6 z_w_6 z_at_6 z_pulled_6 z_best_6 z_cartRow_6 z_tryRow_6 z_from_6
              else
                some (y1_3, z_eaten_6, z_bestMinutes_6, z_bestOats_6, z_w_6, z_at_6, z_pulled_6, z_best_6, z_cartRow_6, z_tryRow_6, z_from_6)
            ) (fun K141_6 =>
            lq12 (fun rec7 (y2_7 : Int32) (y4_7 : Int32) (z_eaten_7 : Int32) (z_bestMinutes_7 : Int32) (z_bestOats_7 : Int32) (z_w_7 : Nat → Int32) (z_at_7 : Nat → Int32) (z_pulled_7 : Nat → Int32) (z_best_7 : Nat → Int32) (z_cartRow_7 : Nat → Int32) (z_tryRow_7 : Nat → Int32) (z_from_7 : Nat → Int32) =>
              if y3_5 ≤ y4_7 then
                K141_6 y2_7 z_eaten_7 z_bestMinutes_7 z_bestOats_7 z_w_7 z_at_7 z_pulled_7 z_best_7 z_cartRow_7 z_tryRow_7 z_from_7
              else
                if y1_3 ≤ 0 then
                  K141_6 y2_7 z_eaten_7 z_bestMinutes_7 z_bestOats_7 z_w_7 z_at_7 z_pulled_7 z_best_7 z_cartRow_7 z_tryRow_7 z_from_7
                else
                  bn2 (f_X9_isRow y4_7 y1_3 z_t z_tryRow_7) (fun (r_8 : Int32) (z_tryRow_8 : Nat → Int32) =>
                    jn10 (fun (y2_9 : Int32) (z_eaten_9 : Int32) (z_bestMinutes_9 : Int32) (z_bestOats_9 : Int32) (z_w_9 : Nat → Int32) (z_at_9 : Nat → Int32) (z_pulled_9 : Nat → Int32) (z_best_9 : Nat → Int32) (z_cartRow_9 : Nat → Int32) (z_from_9 : Nat → Int32) =>
                      rec7 y2_9 (y4_7 + (1 : Int32)) z_eaten_9 z_bestMinutes_9 z_bestOats_9 z_w_9 z_at_9 z_pulled_9 z_best_9 z_cartRow_9 z_tryRow_8 z_from_9
                    ) (fun J135_9 =>
                    if r_8 = 0 then
                      J135_9 y2_7 z_eaten_7 z_bestMinutes_7 z_bestOats_7 z_w_7 z_at_7 z_pulled_7 z_best_7 z_cartRow_7 z_from_7
                    else
                      jn1 (fun (u_10 : Unit) =>
                        bn9 (f_X9_isOver y1_3 z_eaten_7 z_half z_bestMinutes_7 z_bestOats_7 z_t z_s z_w_7 z_at_7 z_pulled_7 z_best_7 z_tryRow_8 z_from_7) (fun (r_11 : Int32) (z_eaten_11 : Int32) (z_bestMinutes_11 : Int32) (z_bestOats_11 : Int32) (z_w_11 : Nat → Int32) (z_at_11 : Nat → Int32) (z_pulled_11 : Nat → Int32) (z_best_11 : Nat → Int32) (z_from_11 : Nat → Int32) =>
                          if r_11 = 0 then
                            J135_9 y2_7 z_eaten_11 z_bestMinutes_11 z_bestOats_11 z_w_11 z_at_11 z_pulled_11 z_best_11 z_cartRow_7 z_from_11
                          else
                            lq2 (fun rec13 (y5_13 : Int32) (z_cartRow_13 : Nat → Int32) =>
                              if y1_3 ≤ y5_13 then
                                J135_9 (1 : Int32) z_eaten_11 z_bestMinutes_11 z_bestOats_11 z_w_11 z_at_11 z_pulled_11 z_best_11 z_cartRow_13 z_from_11
                              else
                                if y5_13 < 0 ∨ 4 ≤ (y5_13).toNatClampNeg then none else
                                rec13 (y5_13 + (1 : Int32)) (upd z_cartRow_13 (y5_13).toNatClampNeg (z_tryRow_8 (y5_13).toNatClampNeg))
                            ) fu (0 : Int32) z_cartRow_7
                        )
                      ) (fun J96_10 =>
                      if y2_7 = 0 then
                        J96_10 ()
                      else
                        bn1 (f_X9_isAhead y1_3 z_cartRow_7 z_tryRow_8) (fun (r_15 : Int32) =>
                          if r_15 = 0 then
                            J135_9 y2_7 z_eaten_7 z_bestMinutes_7 z_bestOats_7 z_w_7 z_at_7 z_pulled_7 z_best_7 z_cartRow_7 z_from_7
                          else
                            J96_10 ()
                        )
                      )
                    )
                  )
            ) fu z0_4 (0 : Int32) z_eaten_3 z_bestMinutes_3 z_bestOats_3 z_w_3 z_at_3 z_pulled_3 z_best_3 z_cartRow_3 z_tryRow_3 z_from_3
            )
          ) (fun K61_5 =>
          lq2 (fun rec16 (y3_16 : Int32) (y4_16 : Int32) =>
            if (z_t ((4 : Int32)).toNatClampNeg) ≤ y4_16 then
              K61_5 y3_16
            else
              rec16 (y3_16 * y1_3) (y4_16 + (1 : Int32))
          ) fu (1 : Int32) (0 : Int32)
          )
        ) (fun J34_4 =>
        if y1_3 = 0 then
          J34_4 (1 : Int32)
        else
          J34_4 (0 : Int32)
        )
def B_X9_fewest_2 (y3_5 : Int32) (K141_6 : Int32 → Int32 → Int32 → Int32 → (Nat → Int32) → (Nat → Int32) → (Nat → Int32) → (Nat → Int32) → (Nat → Int32) → (Nat → Int32) → (Nat → Int32) → Option (Int32 × Int32 × Int32 × Int32 × (Nat → Int32) × (Nat → Int32) × (Nat → Int32) × (Nat → Int32) × (Nat → Int32) × (Nat → Int32) × (Nat → Int32))) (y1_3 : Int32) (z_t : Nat → Int32) (z_half : Int32) (z_s : Nat → Int32) : (Int32 → Int32 → Int32 → Int32 → Int32 → (Nat → Int32) → (Nat → Int32) → (Nat → Int32) → (Nat → Int32) → (Nat → Int32) → (Nat → Int32) → (Nat → Int32) → Option (Int32 × Int32 × Int32 × Int32 × (Nat → Int32) × (Nat → Int32) × (Nat → Int32) × (Nat → Int32) × (Nat → Int32) × (Nat → Int32) × (Nat → Int32))) → Int32 → Int32 → Int32 → Int32 → Int32 → (Nat → Int32) → (Nat → Int32) → (Nat → Int32) → (Nat → Int32) → (Nat → Int32) → (Nat → Int32) → (Nat → Int32) → Option (Int32 × Int32 × Int32 × Int32 × (Nat → Int32) × (Nat → Int32) × (Nat → Int32) × (Nat → Int32) × (Nat → Int32) × (Nat → Int32) × (Nat → Int32)) := fun rec7 (y2_7 : Int32) (y4_7 : Int32) (z_eaten_7 : Int32) (z_bestMinutes_7 : Int32) (z_bestOats_7 : Int32) (z_w_7 : Nat → Int32) (z_at_7 : Nat → Int32) (z_pulled_7 : Nat → Int32) (z_best_7 : Nat → Int32) (z_cartRow_7 : Nat → Int32) (z_tryRow_7 : Nat → Int32) (z_from_7 : Nat → Int32) =>
              if y3_5 ≤ y4_7 then
                K141_6 y2_7 z_eaten_7 z_bestMinutes_7 z_bestOats_7 z_w_7 z_at_7 z_pulled_7 z_best_7 z_cartRow_7 z_tryRow_7 z_from_7
              else
                if y1_3 ≤ 0 then
                  K141_6 y2_7 z_eaten_7 z_bestMinutes_7 z_bestOats_7 z_w_7 z_at_7 z_pulled_7 z_best_7 z_cartRow_7 z_tryRow_7 z_from_7
                else
                  bn2 (f_X9_isRow y4_7 y1_3 z_t z_tryRow_7) (fun (r_8 : Int32) (z_tryRow_8 : Nat → Int32) =>
                    jn10 (fun (y2_9 : Int32) (z_eaten_9 : Int32) (z_bestMinutes_9 : Int32) (z_bestOats_9 : Int32) (z_w_9 : Nat → Int32) (z_at_9 : Nat → Int32) (z_pulled_9 : Nat → Int32) (z_best_9 : Nat → Int32) (z_cartRow_9 : Nat → Int32) (z_from_9 : Nat → Int32) =>
                      rec7 y2_9 (y4_7 + (1 : Int32)) z_eaten_9 z_bestMinutes_9 z_bestOats_9 z_w_9 z_at_9 z_pulled_9 z_best_9 z_cartRow_9 z_tryRow_8 z_from_9
                    ) (fun J135_9 =>
                    if r_8 = 0 then
                      J135_9 y2_7 z_eaten_7 z_bestMinutes_7 z_bestOats_7 z_w_7 z_at_7 z_pulled_7 z_best_7 z_cartRow_7 z_from_7
                    else
                      jn1 (fun (u_10 : Unit) =>
                        bn9 (f_X9_isOver y1_3 z_eaten_7 z_half z_bestMinutes_7 z_bestOats_7 z_t z_s z_w_7 z_at_7 z_pulled_7 z_best_7 z_tryRow_8 z_from_7) (fun (r_11 : Int32) (z_eaten_11 : Int32) (z_bestMinutes_11 : Int32) (z_bestOats_11 : Int32) (z_w_11 : Nat → Int32) (z_at_11 : Nat → Int32) (z_pulled_11 : Nat → Int32) (z_best_11 : Nat → Int32) (z_from_11 : Nat → Int32) =>
                          if r_11 = 0 then
                            J135_9 y2_7 z_eaten_11 z_bestMinutes_11 z_bestOats_11 z_w_11 z_at_11 z_pulled_11 z_best_11 z_cartRow_7 z_from_11
                          else
                            lq2 (fun rec13 (y5_13 : Int32) (z_cartRow_13 : Nat → Int32) =>
                              if y1_3 ≤ y5_13 then
                                J135_9 (1 : Int32) z_eaten_11 z_bestMinutes_11 z_bestOats_11 z_w_11 z_at_11 z_pulled_11 z_best_11 z_cartRow_13 z_from_11
                              else
                                if y5_13 < 0 ∨ 4 ≤ (y5_13).toNatClampNeg then none else
                                rec13 (y5_13 + (1 : Int32)) (upd z_cartRow_13 (y5_13).toNatClampNeg (z_tryRow_8 (y5_13).toNatClampNeg))
                            ) fu (0 : Int32) z_cartRow_7
                        )
                      ) (fun J96_10 =>
                      if y2_7 = 0 then
                        J96_10 ()
                      else
                        bn1 (f_X9_isAhead y1_3 z_cartRow_7 z_tryRow_8) (fun (r_15 : Int32) =>
                          if r_15 = 0 then
                            J135_9 y2_7 z_eaten_7 z_bestMinutes_7 z_bestOats_7 z_w_7 z_at_7 z_pulled_7 z_best_7 z_cartRow_7 z_from_7
                          else
                            J96_10 ()
                        )
                      )
                    )
                  )
def B_X9_fewest_3 (y1_3 : Int32) (J135_9 : Int32 → Int32 → Int32 → Int32 → (Nat → Int32) → (Nat → Int32) → (Nat → Int32) → (Nat → Int32) → (Nat → Int32) → (Nat → Int32) → Option (Int32 × Int32 × Int32 × Int32 × (Nat → Int32) × (Nat → Int32) × (Nat → Int32) × (Nat → Int32) × (Nat → Int32) × (Nat → Int32) × (Nat → Int32))) (z_eaten_11 : Int32) (z_bestMinutes_11 : Int32) (z_bestOats_11 : Int32) (z_w_11 : Nat → Int32) (z_at_11 : Nat → Int32) (z_pulled_11 : Nat → Int32) (z_best_11 : Nat → Int32) (z_from_11 : Nat → Int32) (z_tryRow_8 : Nat → Int32) : (Int32 → (Nat → Int32) → Option (Int32 × Int32 × Int32 × Int32 × (Nat → Int32) × (Nat → Int32) × (Nat → Int32) × (Nat → Int32) × (Nat → Int32) × (Nat → Int32) × (Nat → Int32))) → Int32 → (Nat → Int32) → Option (Int32 × Int32 × Int32 × Int32 × (Nat → Int32) × (Nat → Int32) × (Nat → Int32) × (Nat → Int32) × (Nat → Int32) × (Nat → Int32) × (Nat → Int32)) := fun rec13 (y5_13 : Int32) (z_cartRow_13 : Nat → Int32) =>
                              if y1_3 ≤ y5_13 then
                                J135_9 (1 : Int32) z_eaten_11 z_bestMinutes_11 z_bestOats_11 z_w_11 z_at_11 z_pulled_11 z_best_11 z_cartRow_13 z_from_11
                              else
                                if y5_13 < 0 ∨ 4 ≤ (y5_13).toNatClampNeg then none else
                                rec13 (y5_13 + (1 : Int32)) (upd z_cartRow_13 (y5_13).toNatClampNeg (z_tryRow_8 (y5_13).toNatClampNeg))
def B_X9_fewest_4 (z_t : Nat → Int32) (K61_5 : Int32 → Option (Int32 × Int32 × Int32 × Int32 × (Nat → Int32) × (Nat → Int32) × (Nat → Int32) × (Nat → Int32) × (Nat → Int32) × (Nat → Int32) × (Nat → Int32))) (y1_3 : Int32) : (Int32 → Int32 → Option (Int32 × Int32 × Int32 × Int32 × (Nat → Int32) × (Nat → Int32) × (Nat → Int32) × (Nat → Int32) × (Nat → Int32) × (Nat → Int32) × (Nat → Int32))) → Int32 → Int32 → Option (Int32 × Int32 × Int32 × Int32 × (Nat → Int32) × (Nat → Int32) × (Nat → Int32) × (Nat → Int32) × (Nat → Int32) × (Nat → Int32) × (Nat → Int32)) := fun rec16 (y3_16 : Int32) (y4_16 : Int32) =>
            if (z_t ((4 : Int32)).toNatClampNeg) ≤ y4_16 then
              K61_5 y3_16
            else
              rec16 (y3_16 * y1_3) (y4_16 + (1 : Int32))
def B_X9_tell_1 (K111_1 : Int32 → Option (Int32 × Int32 × Int32 × (Nat → Int32) × (Nat → Int32))) (z_at : Nat → Int32) (n1 : Int32) (n2 : Int32) (n3 : Int32) (z_t : Nat → Int32) : (Int32 → Int32 → Option (Int32 × Int32 × Int32 × (Nat → Int32) × (Nat → Int32))) → Int32 → Int32 → Option (Int32 × Int32 × Int32 × (Nat → Int32) × (Nat → Int32)) := fun rec10 (y6_10 : Int32) (y7_10 : Int32) =>
    if (3 : Int32) ≤ y7_10 then
      K111_1 y6_10
    else
      jn1 (fun (z0_11 : Int32) =>
        rec10 z0_11 (y7_10 + (1 : Int32))
      ) (fun J103_11 =>
      jn1 (fun (u_12 : Unit) =>
        J103_11 (0 : Int32)
      ) (fun J102_12 =>
      if y6_10 = 0 then
        J102_12 ()
      else
        if y7_10 < 0 ∨ 3 ≤ (y7_10).toNatClampNeg then none else
        jn1 (fun (u_14 : Unit) =>
          J103_11 (1 : Int32)
        ) (fun J98_14 =>
        if ((upd (upd (upd z_at ((0 : Int32)).toNatClampNeg n1) ((1 : Int32)).toNatClampNeg n2) ((2 : Int32)).toNatClampNeg n3) (y7_10).toNatClampNeg) = (-1 : Int32) then
          J98_14 ()
        else
          bn1 (f_X9_isPlace y7_10 z_t) (fun (r_15 : Int32) =>
            if r_15 = 0 then
              J102_12 ()
            else
              bn1 (f_X9_isHorse ((upd (upd (upd z_at ((0 : Int32)).toNatClampNeg n1) ((1 : Int32)).toNatClampNeg n2) ((2 : Int32)).toNatClampNeg n3) (y7_10).toNatClampNeg) z_t) (fun (r_16 : Int32) =>
                if r_16 = 0 then
                  J102_12 ()
                else
                  if ((y7_10 + (1 : Int32)) - (y7_10 + (1 : Int32)) / (3 : Int32) * (3 : Int32)) < 0 ∨ 3 ≤ (((y7_10 + (1 : Int32)) - (y7_10 + (1 : Int32)) / (3 : Int32) * (3 : Int32))).toNatClampNeg then none else
                  if ((upd (upd (upd z_at ((0 : Int32)).toNatClampNeg n1) ((1 : Int32)).toNatClampNeg n2) ((2 : Int32)).toNatClampNeg n3) (y7_10).toNatClampNeg) = ((upd (upd (upd z_at ((0 : Int32)).toNatClampNeg n1) ((1 : Int32)).toNatClampNeg n2) ((2 : Int32)).toNatClampNeg n3) (((y7_10 + (1 : Int32)) - (y7_10 + (1 : Int32)) / (3 : Int32) * (3 : Int32))).toNatClampNeg) then
                    J102_12 ()
                  else
                    J98_14 ()
              )
          )
        )
      )
      )
def B_X9_wrongOne_1 (z_timeMany : Int32) (K120_1 : Int32 → (Nat → Int32) → (Nat → Int32) → (Nat → Int32) → Option (Int32 × Int32 × (Nat → Int32) × (Nat → Int32) × (Nat → Int32))) (z_times : Nat → Int32) (z_half : Int32) (z_t : Nat → Int32) : (Int32 → Int32 → (Nat → Int32) → (Nat → Int32) → (Nat → Int32) → Option (Int32 × Int32 × (Nat → Int32) × (Nat → Int32) × (Nat → Int32))) → Int32 → Int32 → (Nat → Int32) → (Nat → Int32) → (Nat → Int32) → Option (Int32 × Int32 × (Nat → Int32) × (Nat → Int32) × (Nat → Int32)) := fun rec2 (y1_2 : Int32) (z_eaten_2 : Int32) (z_w_2 : Nat → Int32) (z_at_2 : Nat → Int32) (z_pulled_2 : Nat → Int32) =>
    if z_timeMany ≤ y1_2 then
      K120_1 z_eaten_2 z_w_2 z_at_2 z_pulled_2
    else
      jn1 (fun (z_at_3 : Nat → Int32) =>
        jn1 (fun (z_w_4 : Nat → Int32) =>
          if (((5 : Int32) * y1_2) + (3 : Int32)) < 0 ∨ 50 ≤ ((((5 : Int32) * y1_2) + (3 : Int32))).toNatClampNeg then none else
          bn4 (f_X9_crosses (z_times ((((5 : Int32) * y1_2) + (3 : Int32))).toNatClampNeg) (0 : Int32) z_eaten_2 z_half z_t z_w_4 z_at_3 z_pulled_2) (fun (r_6 : Int32) (z_eaten_6 : Int32) (z_w_6 : Nat → Int32) (z_pulled_6 : Nat → Int32) =>
            if (((5 : Int32) * y1_2) + (4 : Int32)) < 0 ∨ 50 ≤ ((((5 : Int32) * y1_2) + (4 : Int32))).toNatClampNeg then none else
            if r_6 = (z_times ((((5 : Int32) * y1_2) + (4 : Int32))).toNatClampNeg) then
              rec2 (y1_2 + (1 : Int32)) z_eaten_6 z_w_6 z_at_3 z_pulled_6
            else
              some (y1_2, z_eaten_6, z_w_6, z_at_3, z_pulled_6)
          )
        ) (fun K88_4 =>
        lq2 (fun rec8 (y3_8 : Int32) (z_w_8 : Nat → Int32) =>
          if (6 : Int32) ≤ y3_8 then
            K88_4 z_w_8
          else
            jn1 (fun (z2_9 : Int32) =>
              if y3_8 < 0 ∨ 6 ≤ (y3_8).toNatClampNeg then none else
              rec8 (y3_8 + (1 : Int32)) (upd z_w_8 (y3_8).toNatClampNeg z2_9)
            ) (fun J81_9 =>
            if (z_t ((3 : Int32)).toNatClampNeg) ≤ y3_8 then
              J81_9 (0 : Int32)
            else
              if (((8 : Int32) + ((4 : Int32) * y3_8)) + (1 : Int32)) < 0 ∨ 84 ≤ ((((8 : Int32) + ((4 : Int32) * y3_8)) + (1 : Int32))).toNatClampNeg then none else
              J81_9 (z_t ((((8 : Int32) + ((4 : Int32) * y3_8)) + (1 : Int32))).toNatClampNeg)
            )
        ) fu (0 : Int32) z_w_2
        )
      ) (fun K41_3 =>
      lq2 (fun rec12 (y3_12 : Int32) (z_at_12 : Nat → Int32) =>
        if (3 : Int32) ≤ y3_12 then
          K41_3 z_at_12
        else
          if (((5 : Int32) * y1_2) + y3_12) < 0 ∨ 50 ≤ ((((5 : Int32) * y1_2) + y3_12)).toNatClampNeg then none else
          if y3_12 < 0 ∨ 3 ≤ (y3_12).toNatClampNeg then none else
          rec12 (y3_12 + (1 : Int32)) (upd z_at_12 (y3_12).toNatClampNeg (z_times ((((5 : Int32) * y1_2) + y3_12)).toNatClampNeg))
      ) fu (0 : Int32) z_at_2
      )
def B_X9_wrongOne_2 (K88_4 : (Nat → Int32) → Option (Int32 × Int32 × (Nat → Int32) × (Nat → Int32) × (Nat → Int32))) (z_t : Nat → Int32) : (Int32 → (Nat → Int32) → Option (Int32 × Int32 × (Nat → Int32) × (Nat → Int32) × (Nat → Int32))) → Int32 → (Nat → Int32) → Option (Int32 × Int32 × (Nat → Int32) × (Nat → Int32) × (Nat → Int32)) := fun rec8 (y3_8 : Int32) (z_w_8 : Nat → Int32) =>
          if (6 : Int32) ≤ y3_8 then
            K88_4 z_w_8
          else
            jn1 (fun (z2_9 : Int32) =>
              if y3_8 < 0 ∨ 6 ≤ (y3_8).toNatClampNeg then none else
              rec8 (y3_8 + (1 : Int32)) (upd z_w_8 (y3_8).toNatClampNeg z2_9)
            ) (fun J81_9 =>
            if (z_t ((3 : Int32)).toNatClampNeg) ≤ y3_8 then
              J81_9 (0 : Int32)
            else
              if (((8 : Int32) + ((4 : Int32) * y3_8)) + (1 : Int32)) < 0 ∨ 84 ≤ ((((8 : Int32) + ((4 : Int32) * y3_8)) + (1 : Int32))).toNatClampNeg then none else
              J81_9 (z_t ((((8 : Int32) + ((4 : Int32) * y3_8)) + (1 : Int32))).toNatClampNeg)
            )
def B_X9_wrongOne_3 (K41_3 : (Nat → Int32) → Option (Int32 × Int32 × (Nat → Int32) × (Nat → Int32) × (Nat → Int32))) (y1_2 : Int32) (z_times : Nat → Int32) : (Int32 → (Nat → Int32) → Option (Int32 × Int32 × (Nat → Int32) × (Nat → Int32) × (Nat → Int32))) → Int32 → (Nat → Int32) → Option (Int32 × Int32 × (Nat → Int32) × (Nat → Int32) × (Nat → Int32)) := fun rec12 (y3_12 : Int32) (z_at_12 : Nat → Int32) =>
        if (3 : Int32) ≤ y3_12 then
          K41_3 z_at_12
        else
          if (((5 : Int32) * y1_2) + y3_12) < 0 ∨ 50 ≤ ((((5 : Int32) * y1_2) + y3_12)).toNatClampNeg then none else
          if y3_12 < 0 ∨ 3 ≤ (y3_12).toNatClampNeg then none else
          rec12 (y3_12 + (1 : Int32)) (upd z_at_12 (y3_12).toNatClampNeg (z_times ((((5 : Int32) * y1_2) + y3_12)).toNatClampNeg))
def B_X9_pulls_1 (K80_3 : Int32 → Int32 → (Nat → Int32) → (Nat → Int32) → (Nat → Int32) → (Nat → Int32) → Option (Int32 × Int32 × Int32 × (Nat → Int32) × (Nat → Int32) × (Nat → Int32) × (Nat → Int32))) (z_timeMany : Int32) (z_half : Int32) (n1 : Int32) (z_times : Nat → Int32) : (Int32 → Int32 → Int32 → (Nat → Int32) → (Nat → Int32) → (Nat → Int32) → (Nat → Int32) → Option (Int32 × Int32 × Int32 × (Nat → Int32) × (Nat → Int32) × (Nat → Int32) × (Nat → Int32))) → Int32 → Int32 → Int32 → (Nat → Int32) → (Nat → Int32) → (Nat → Int32) → (Nat → Int32) → Option (Int32 × Int32 × Int32 × (Nat → Int32) × (Nat → Int32) × (Nat → Int32) × (Nat → Int32)) := fun rec4 (y3_4 : Int32) (y4_4 : Int32) (z_eaten_4 : Int32) (z_t_4 : Nat → Int32) (z_w_4 : Nat → Int32) (z_at_4 : Nat → Int32) (z_pulled_4 : Nat → Int32) =>
        if (31 : Int32) ≤ y4_4 then
          K80_3 y3_4 z_eaten_4 z_t_4 z_w_4 z_at_4 z_pulled_4
        else
          bn5 (f_X9_wrongOne z_timeMany z_eaten_4 z_half (upd z_t_4 (((8 : Int32) + ((4 : Int32) * n1))).toNatClampNeg y4_4) z_times z_w_4 z_at_4 z_pulled_4) (fun (r_5 : Int32) (z_eaten_5 : Int32) (z_w_5 : Nat → Int32) (z_at_5 : Nat → Int32) (z_pulled_5 : Nat → Int32) =>
            jn1 (fun (z1_6 : Int32) =>
              rec4 (y3_4 ||| z1_6) (y4_4 + (1 : Int32)) z_eaten_5 (upd z_t_4 (((8 : Int32) + ((4 : Int32) * n1))).toNatClampNeg y4_4) z_w_5 z_at_5 z_pulled_5
            ) (fun J72_6 =>
            if r_5 = (-1 : Int32) then
              J72_6 ((1 : Int32) <<< ((y4_4 - (1 : Int32)) &&& 31))
            else
              J72_6 (0 : Int32)
            )
          )
def B_X9_sham_1 (z_t : Nat → Int32) (K48_1 : Int32 → Int32 → Int32 → (Nat → Int32) → (Nat → Int32) → (Nat → Int32) → Option (Int32 × Int32 × Int32 × Int32 × (Nat → Int32) × (Nat → Int32) × (Nat → Int32))) (z_timeMany : Int32) (z_times : Nat → Int32) : (Int32 → Int32 → Int32 → Int32 → (Nat → Int32) → (Nat → Int32) → (Nat → Int32) → Option (Int32 × Int32 × Int32 × Int32 × (Nat → Int32) × (Nat → Int32) × (Nat → Int32))) → Int32 → Int32 → Int32 → Int32 → (Nat → Int32) → (Nat → Int32) → (Nat → Int32) → Option (Int32 × Int32 × Int32 × Int32 × (Nat → Int32) × (Nat → Int32) × (Nat → Int32)) := fun rec2 (y1_2 : Int32) (y2_2 : Int32) (z_eaten_2 : Int32) (z_half_2 : Int32) (z_w_2 : Nat → Int32) (z_at_2 : Nat → Int32) (z_pulled_2 : Nat → Int32) =>
    if (z_t ((3 : Int32)).toNatClampNeg) ≤ y2_2 then
      K48_1 y1_2 z_eaten_2 z_half_2 z_w_2 z_at_2 z_pulled_2
    else
      bn5 (f_X9_wrongOne z_timeMany z_eaten_2 y2_2 z_t z_times z_w_2 z_at_2 z_pulled_2) (fun (r_3 : Int32) (z_eaten_3 : Int32) (z_w_3 : Nat → Int32) (z_at_3 : Nat → Int32) (z_pulled_3 : Nat → Int32) =>
        jn1 (fun (z1_4 : Int32) =>
          rec2 (y1_2 ||| z1_4) (y2_2 + (1 : Int32)) z_eaten_3 y2_2 z_w_3 z_at_3 z_pulled_3
        ) (fun J40_4 =>
        if r_3 = (-1 : Int32) then
          J40_4 ((1 : Int32) <<< (y2_2 &&& 31))
        else
          J40_4 (0 : Int32)
        )
      )
def B_X9_keep_1 (K48_2 : (Nat → Int32) → Option (Int32 × Int32 × (Nat → Int32) × (Nat → Int32))) (n1 : Int32) (z_s : Nat → Int32) : (Int32 → (Nat → Int32) → Option (Int32 × Int32 × (Nat → Int32) × (Nat → Int32))) → Int32 → (Nat → Int32) → Option (Int32 × Int32 × (Nat → Int32) × (Nat → Int32)) := fun rec4 (y2_4 : Int32) (z_kept_4 : Nat → Int32) =>
        if (13 : Int32) ≤ y2_4 then
          K48_2 z_kept_4
        else
          if y2_4 < 0 ∨ 13 ≤ (y2_4).toNatClampNeg then none else
          if (((13 : Int32) * n1) + y2_4) < 0 ∨ 26 ≤ ((((13 : Int32) * n1) + y2_4)).toNatClampNeg then none else
          rec4 (y2_4 + (1 : Int32)) (upd z_kept_4 ((((13 : Int32) * n1) + y2_4)).toNatClampNeg (z_s (y2_4).toNatClampNeg))
def B_X9_goBack_1 (K60_3 : (Nat → Int32) → Option (Int32 × Int32 × (Nat → Int32))) (n1 : Int32) (z_kept : Nat → Int32) : (Int32 → (Nat → Int32) → Option (Int32 × Int32 × (Nat → Int32))) → Int32 → (Nat → Int32) → Option (Int32 × Int32 × (Nat → Int32)) := fun rec4 (y2_4 : Int32) (z_s_4 : Nat → Int32) =>
          if (13 : Int32) ≤ y2_4 then
            K60_3 z_s_4
          else
            if (((13 : Int32) * n1) + y2_4) < 0 ∨ 26 ≤ ((((13 : Int32) * n1) + y2_4)).toNatClampNeg then none else
            if y2_4 < 0 ∨ 13 ≤ (y2_4).toNatClampNeg then none else
            rec4 (y2_4 + (1 : Int32)) (upd z_s_4 (y2_4).toNatClampNeg (z_kept ((((13 : Int32) * n1) + y2_4)).toNatClampNeg))
