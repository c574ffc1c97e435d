def bX4_enclose_0 (c : MS) (a : Int32) (b : Int32) (kr : MS → Prop)  : Prop :=
  (vp_in a 32 ∧ (if (c.2.1 23 a.toNatClampNeg) = 0 then
    (vp_in a 32 ∧ (vp_in (((3 : Int32) * b) + (c.2.1 24 a.toNatClampNeg)) 300 ∧ (vp_in a 32 ∧ (vp_in (((3 : Int32) * b) + (c.2.1 24 a.toNatClampNeg)) 300 ∧ (wX4_put c a (c.2.2 28 (((3 : Int32) * b) + (c.2.1 24 a.toNatClampNeg)).toNatClampNeg) (c.2.2 29 (((3 : Int32) * b) + (c.2.1 24 a.toNatClampNeg)).toNatClampNeg) (fun  X229 => kr X229))))))
  else
    (if (c.2.1 23 a.toNatClampNeg) = (1 : Int32) then
      (vp_in a 32 ∧ (vp_in a 32 ∧ (wX4_put c a (c.2.2 26 a.toNatClampNeg) (c.2.2 26 a.toNatClampNeg) (fun  X228 => kr X228))))
    else
      (vp_in a 32 ∧ (vp_in (c.2.1 24 a.toNatClampNeg) 32 ∧ (vp_in a 32 ∧ (vp_in (c.2.1 24 a.toNatClampNeg) 32 ∧ (wX4_isTwo (c.2.1 23 a.toNatClampNeg) (fun r1 => (if r1 = 0 then
        (wX4_isTwo (c.2.1 23 a.toNatClampNeg) (fun r2 => (if r2 = 0 then
          (if (c.2.1 23 a.toNatClampNeg).toInt < 2 ∨ 12 < (c.2.1 23 a.toNatClampNeg).toInt then
            (wX4_made (c.2.1 23 a.toNatClampNeg) (c.2.2 34 (c.2.1 24 a.toNatClampNeg).toNatClampNeg) (FP.dconst0 : UInt64) (fun r56 => (wX4_made (c.2.1 23 a.toNatClampNeg) (c.2.2 35 (c.2.1 24 a.toNatClampNeg).toNatClampNeg) (FP.dconst0 : UInt64) (fun r57 => (wX4_put c a r56 r57 (fun  X58 => kr X58))))))
          else if (c.2.1 23 a.toNatClampNeg) = (2 : Int32) then
            (wX4_added (c.2.2 34 (c.2.1 24 a.toNatClampNeg).toNatClampNeg) (FP.dconst0 : UInt64) (fun r3 => (wX4_down r3 (fun r4 => (wX4_added (c.2.2 35 (c.2.1 24 a.toNatClampNeg).toNatClampNeg) (FP.dconst0 : UInt64) (fun r5 => (wX4_up r5 (fun r6 => (wX4_put c a r4 r6 (fun  X7 => kr X7))))))))))
          else if (c.2.1 23 a.toNatClampNeg) = (3 : Int32) then
            (wX4_lessened (c.2.2 34 (c.2.1 24 a.toNatClampNeg).toNatClampNeg) (FP.dconst0 : UInt64) (fun r8 => (wX4_down r8 (fun r9 => (wX4_lessened (c.2.2 35 (c.2.1 24 a.toNatClampNeg).toNatClampNeg) (FP.dconst0 : UInt64) (fun r10 => (wX4_up r10 (fun r11 => (wX4_put c a r9 r11 (fun  X12 => kr X12))))))))))
          else if (c.2.1 23 a.toNatClampNeg) = (4 : Int32) then
            (wX4_timed (c.2.2 34 (c.2.1 24 a.toNatClampNeg).toNatClampNeg) (FP.dconst0 : UInt64) (fun r13 => (wX4_timed (c.2.2 34 (c.2.1 24 a.toNatClampNeg).toNatClampNeg) (FP.dconst0 : UInt64) (fun r14 => (wX4_timed (c.2.2 35 (c.2.1 24 a.toNatClampNeg).toNatClampNeg) (FP.dconst0 : UInt64) (fun r15 => (wX4_timed (c.2.2 35 (c.2.1 24 a.toNatClampNeg).toNatClampNeg) (FP.dconst0 : UInt64) (fun r16 => (wX4_putFour c a r13 r14 r15 r16 (fun  X17 => kr X17))))))))))
          else if (c.2.1 23 a.toNatClampNeg) = (5 : Int32) then
            (if 0 < (Op.cmpValue (FP.dcmp (FP.dconst0 : UInt64) (FP.dconst0 : UInt64)) .l) then
              (wX4_divided (c.2.2 34 (c.2.1 24 a.toNatClampNeg).toNatClampNeg) (FP.dconst0 : UInt64) (fun r18 => (wX4_divided (c.2.2 34 (c.2.1 24 a.toNatClampNeg).toNatClampNeg) (FP.dconst0 : UInt64) (fun r19 => (wX4_divided (c.2.2 35 (c.2.1 24 a.toNatClampNeg).toNatClampNeg) (FP.dconst0 : UInt64) (fun r20 => (wX4_divided (c.2.2 35 (c.2.1 24 a.toNatClampNeg).toNatClampNeg) (FP.dconst0 : UInt64) (fun r21 => (wX4_putFour c a r18 r19 r20 r21 (fun  X22 => kr X22))))))))))
            else
              (if (Op.cmpValue (FP.dcmp (FP.dconst0 : UInt64) (FP.dconst0 : UInt64)) .g) < 0 then
                (wX4_divided (c.2.2 34 (c.2.1 24 a.toNatClampNeg).toNatClampNeg) (FP.dconst0 : UInt64) (fun r23 => (wX4_divided (c.2.2 34 (c.2.1 24 a.toNatClampNeg).toNatClampNeg) (FP.dconst0 : UInt64) (fun r24 => (wX4_divided (c.2.2 35 (c.2.1 24 a.toNatClampNeg).toNatClampNeg) (FP.dconst0 : UInt64) (fun r25 => (wX4_divided (c.2.2 35 (c.2.1 24 a.toNatClampNeg).toNatClampNeg) (FP.dconst0 : UInt64) (fun r26 => (wX4_putFour c a r23 r24 r25 r26 (fun  X27 => kr X27))))))))))
              else
                (wX4_put c a (9221120237041090560 : UInt64) (9221120237041090560 : UInt64) (fun  X28 => kr X28))))
          else if (c.2.1 23 a.toNatClampNeg) = (6 : Int32) then
            (wX4_made (c.2.1 23 a.toNatClampNeg) (c.2.2 34 (c.2.1 24 a.toNatClampNeg).toNatClampNeg) (FP.dconst0 : UInt64) (fun r29 => (wX4_made (c.2.1 23 a.toNatClampNeg) (c.2.2 35 (c.2.1 24 a.toNatClampNeg).toNatClampNeg) (FP.dconst0 : UInt64) (fun r30 => (wX4_put c a r29 r30 (fun  X31 => kr X31))))))
          else if (c.2.1 23 a.toNatClampNeg) = (7 : Int32) then
            (wX4_made (c.2.1 23 a.toNatClampNeg) (c.2.2 34 (c.2.1 24 a.toNatClampNeg).toNatClampNeg) (FP.dconst0 : UInt64) (fun r32 => (wX4_made (c.2.1 23 a.toNatClampNeg) (c.2.2 35 (c.2.1 24 a.toNatClampNeg).toNatClampNeg) (FP.dconst0 : UInt64) (fun r33 => (wX4_put c a r32 r33 (fun  X34 => kr X34))))))
          else if (c.2.1 23 a.toNatClampNeg) = (8 : Int32) then
            (wX4_sizeLow (c.2.2 34 (c.2.1 24 a.toNatClampNeg).toNatClampNeg) (c.2.2 35 (c.2.1 24 a.toNatClampNeg).toNatClampNeg) (fun r35 => (wX4_sizeHigh (c.2.2 34 (c.2.1 24 a.toNatClampNeg).toNatClampNeg) (c.2.2 35 (c.2.1 24 a.toNatClampNeg).toNatClampNeg) (fun r36 => (wX4_putUp c a r35 r36 (fun  X37 => kr X37))))))
          else if (c.2.1 23 a.toNatClampNeg) = (9 : Int32) then
            (if 0 ≤ (Op.cmpValue (FP.dcmp (c.2.2 34 (c.2.1 24 a.toNatClampNeg).toNatClampNeg) (FP.dconst0 : UInt64)) .g) then
              (wX4_root (c.2.2 34 (c.2.1 24 a.toNatClampNeg).toNatClampNeg) (fun r38 => (wX4_down r38 (fun r39 => (wX4_root (c.2.2 35 (c.2.1 24 a.toNatClampNeg).toNatClampNeg) (fun r40 => (wX4_up r40 (fun r41 => (wX4_putUp c a r39 r41 (fun  X42 => kr X42))))))))))
            else
              (wX4_put c a (9221120237041090560 : UInt64) (9221120237041090560 : UInt64) (fun  X43 => kr X43)))
          else if (c.2.1 23 a.toNatClampNeg) = (10 : Int32) then
            (wX4_sizeLow (c.2.2 34 (c.2.1 24 a.toNatClampNeg).toNatClampNeg) (c.2.2 35 (c.2.1 24 a.toNatClampNeg).toNatClampNeg) (fun r44 => (wX4_sizeHigh (c.2.2 34 (c.2.1 24 a.toNatClampNeg).toNatClampNeg) (c.2.2 35 (c.2.1 24 a.toNatClampNeg).toNatClampNeg) (fun r45 => (if 0 ≤ (Op.cmpValue (FP.dcmp r44 (FP.dconst0 : UInt64)) .g) then
              (vf_n64 (FP.dmul r44 r44) ∧ (wX4_down (FP.dmul r44 r44) (fun r46 => (vf_n64 (FP.dmul r45 r45) ∧ (wX4_up (FP.dmul r45 r45) (fun r47 => (wX4_putUp c a r46 r47 (fun  X48 => kr X48))))))))
            else
              (vf_n64 (FP.dmul (FP.dconst0 : UInt64) (FP.dconst0 : UInt64)) ∧ (wX4_down (FP.dmul (FP.dconst0 : UInt64) (FP.dconst0 : UInt64)) (fun r49 => (vf_n64 (FP.dmul r45 r45) ∧ (wX4_up (FP.dmul r45 r45) (fun r50 => (wX4_putUp c a r49 r50 (fun  X51 => kr X51)))))))))))))
          else if (c.2.1 23 a.toNatClampNeg) = (11 : Int32) then
            (wX4_made (c.2.1 23 a.toNatClampNeg) (c.2.2 34 (c.2.1 24 a.toNatClampNeg).toNatClampNeg) (FP.dconst0 : UInt64) (fun r52 => (wX4_made (c.2.1 23 a.toNatClampNeg) (c.2.2 35 (c.2.1 24 a.toNatClampNeg).toNatClampNeg) (FP.dconst0 : UInt64) (fun r53 => (wX4_put c a r52 r53 (fun  X54 => kr X54))))))
          else
            (wX4_put c a (FP.dneg (c.2.2 35 (c.2.1 24 a.toNatClampNeg).toNatClampNeg)) (FP.dneg (c.2.2 34 (c.2.1 24 a.toNatClampNeg).toNatClampNeg)) (fun  X55 => kr X55)))
        else
          (vp_in a 32 ∧ (vp_in (c.2.1 25 a.toNatClampNeg) 32 ∧ (if (c.2.1 23 a.toNatClampNeg).toInt < 2 ∨ 12 < (c.2.1 23 a.toNatClampNeg).toInt then
            (wX4_made (c.2.1 23 a.toNatClampNeg) (c.2.2 34 (c.2.1 24 a.toNatClampNeg).toNatClampNeg) (FP.dconst0 : UInt64) (fun r112 => (wX4_made (c.2.1 23 a.toNatClampNeg) (c.2.2 35 (c.2.1 24 a.toNatClampNeg).toNatClampNeg) (c.2.2 35 (c.2.1 25 a.toNatClampNeg).toNatClampNeg) (fun r113 => (wX4_put c a r112 r113 (fun  X114 => kr X114))))))
          else if (c.2.1 23 a.toNatClampNeg) = (2 : Int32) then
            (wX4_added (c.2.2 34 (c.2.1 24 a.toNatClampNeg).toNatClampNeg) (FP.dconst0 : UInt64) (fun r59 => (wX4_down r59 (fun r60 => (wX4_added (c.2.2 35 (c.2.1 24 a.toNatClampNeg).toNatClampNeg) (c.2.2 35 (c.2.1 25 a.toNatClampNeg).toNatClampNeg) (fun r61 => (wX4_up r61 (fun r62 => (wX4_put c a r60 r62 (fun  X63 => kr X63))))))))))
          else if (c.2.1 23 a.toNatClampNeg) = (3 : Int32) then
            (wX4_lessened (c.2.2 34 (c.2.1 24 a.toNatClampNeg).toNatClampNeg) (c.2.2 35 (c.2.1 25 a.toNatClampNeg).toNatClampNeg) (fun r64 => (wX4_down r64 (fun r65 => (wX4_lessened (c.2.2 35 (c.2.1 24 a.toNatClampNeg).toNatClampNeg) (FP.dconst0 : UInt64) (fun r66 => (wX4_up r66 (fun r67 => (wX4_put c a r65 r67 (fun  X68 => kr X68))))))))))
          else if (c.2.1 23 a.toNatClampNeg) = (4 : Int32) then
            (wX4_timed (c.2.2 34 (c.2.1 24 a.toNatClampNeg).toNatClampNeg) (FP.dconst0 : UInt64) (fun r69 => (wX4_timed (c.2.2 34 (c.2.1 24 a.toNatClampNeg).toNatClampNeg) (c.2.2 35 (c.2.1 25 a.toNatClampNeg).toNatClampNeg) (fun r70 => (wX4_timed (c.2.2 35 (c.2.1 24 a.toNatClampNeg).toNatClampNeg) (FP.dconst0 : UInt64) (fun r71 => (wX4_timed (c.2.2 35 (c.2.1 24 a.toNatClampNeg).toNatClampNeg) (c.2.2 35 (c.2.1 25 a.toNatClampNeg).toNatClampNeg) (fun r72 => (wX4_putFour c a r69 r70 r71 r72 (fun  X73 => kr X73))))))))))
          else if (c.2.1 23 a.toNatClampNeg) = (5 : Int32) then
            (if 0 < (Op.cmpValue (FP.dcmp (FP.dconst0 : UInt64) (FP.dconst0 : UInt64)) .l) then
              (wX4_divided (c.2.2 34 (c.2.1 24 a.toNatClampNeg).toNatClampNeg) (FP.dconst0 : UInt64) (fun r74 => (wX4_divided (c.2.2 34 (c.2.1 24 a.toNatClampNeg).toNatClampNeg) (c.2.2 35 (c.2.1 25 a.toNatClampNeg).toNatClampNeg) (fun r75 => (wX4_divided (c.2.2 35 (c.2.1 24 a.toNatClampNeg).toNatClampNeg) (FP.dconst0 : UInt64) (fun r76 => (wX4_divided (c.2.2 35 (c.2.1 24 a.toNatClampNeg).toNatClampNeg) (c.2.2 35 (c.2.1 25 a.toNatClampNeg).toNatClampNeg) (fun r77 => (wX4_putFour c a r74 r75 r76 r77 (fun  X78 => kr X78))))))))))
            else
              (if (Op.cmpValue (FP.dcmp (c.2.2 35 (c.2.1 25 a.toNatClampNeg).toNatClampNeg) (FP.dconst0 : UInt64)) .g) < 0 then
                (wX4_divided (c.2.2 34 (c.2.1 24 a.toNatClampNeg).toNatClampNeg) (FP.dconst0 : UInt64) (fun r79 => (wX4_divided (c.2.2 34 (c.2.1 24 a.toNatClampNeg).toNatClampNeg) (c.2.2 35 (c.2.1 25 a.toNatClampNeg).toNatClampNeg) (fun r80 => (wX4_divided (c.2.2 35 (c.2.1 24 a.toNatClampNeg).toNatClampNeg) (FP.dconst0 : UInt64) (fun r81 => (wX4_divided (c.2.2 35 (c.2.1 24 a.toNatClampNeg).toNatClampNeg) (c.2.2 35 (c.2.1 25 a.toNatClampNeg).toNatClampNeg) (fun r82 => (wX4_putFour c a r79 r80 r81 r82 (fun  X83 => kr X83))))))))))
              else
                (wX4_put c a (9221120237041090560 : UInt64) (9221120237041090560 : UInt64) (fun  X84 => kr X84))))
          else if (c.2.1 23 a.toNatClampNeg) = (6 : Int32) then
            (wX4_made (c.2.1 23 a.toNatClampNeg) (c.2.2 34 (c.2.1 24 a.toNatClampNeg).toNatClampNeg) (FP.dconst0 : UInt64) (fun r85 => (wX4_made (c.2.1 23 a.toNatClampNeg) (c.2.2 35 (c.2.1 24 a.toNatClampNeg).toNatClampNeg) (c.2.2 35 (c.2.1 25 a.toNatClampNeg).toNatClampNeg) (fun r86 => (wX4_put c a r85 r86 (fun  X87 => kr X87))))))
          else if (c.2.1 23 a.toNatClampNeg) = (7 : Int32) then
            (wX4_made (c.2.1 23 a.toNatClampNeg) (c.2.2 34 (c.2.1 24 a.toNatClampNeg).toNatClampNeg) (FP.dconst0 : UInt64) (fun r88 => (wX4_made (c.2.1 23 a.toNatClampNeg) (c.2.2 35 (c.2.1 24 a.toNatClampNeg).toNatClampNeg) (c.2.2 35 (c.2.1 25 a.toNatClampNeg).toNatClampNeg) (fun r89 => (wX4_put c a r88 r89 (fun  X90 => kr X90))))))
          else if (c.2.1 23 a.toNatClampNeg) = (8 : Int32) then
            (wX4_sizeLow (c.2.2 34 (c.2.1 24 a.toNatClampNeg).toNatClampNeg) (c.2.2 35 (c.2.1 24 a.toNatClampNeg).toNatClampNeg) (fun r91 => (wX4_sizeHigh (c.2.2 34 (c.2.1 24 a.toNatClampNeg).toNatClampNeg) (c.2.2 35 (c.2.1 24 a.toNatClampNeg).toNatClampNeg) (fun r92 => (wX4_putUp c a r91 r92 (fun  X93 => kr X93))))))
          else if (c.2.1 23 a.toNatClampNeg) = (9 : Int32) then
            (if 0 ≤ (Op.cmpValue (FP.dcmp (c.2.2 34 (c.2.1 24 a.toNatClampNeg).toNatClampNeg) (FP.dconst0 : UInt64)) .g) then
              (wX4_root (c.2.2 34 (c.2.1 24 a.toNatClampNeg).toNatClampNeg) (fun r94 => (wX4_down r94 (fun r95 => (wX4_root (c.2.2 35 (c.2.1 24 a.toNatClampNeg).toNatClampNeg) (fun r96 => (wX4_up r96 (fun r97 => (wX4_putUp c a r95 r97 (fun  X98 => kr X98))))))))))
            else
              (wX4_put c a (9221120237041090560 : UInt64) (9221120237041090560 : UInt64) (fun  X99 => kr X99)))
          else if (c.2.1 23 a.toNatClampNeg) = (10 : Int32) then
            (wX4_sizeLow (c.2.2 34 (c.2.1 24 a.toNatClampNeg).toNatClampNeg) (c.2.2 35 (c.2.1 24 a.toNatClampNeg).toNatClampNeg) (fun r100 => (wX4_sizeHigh (c.2.2 34 (c.2.1 24 a.toNatClampNeg).toNatClampNeg) (c.2.2 35 (c.2.1 24 a.toNatClampNeg).toNatClampNeg) (fun r101 => (if 0 ≤ (Op.cmpValue (FP.dcmp r100 (FP.dconst0 : UInt64)) .g) then
              (vf_n64 (FP.dmul r100 r100) ∧ (wX4_down (FP.dmul r100 r100) (fun r102 => (vf_n64 (FP.dmul r101 r101) ∧ (wX4_up (FP.dmul r101 r101) (fun r103 => (wX4_putUp c a r102 r103 (fun  X104 => kr X104))))))))
            else
              (vf_n64 (FP.dmul (FP.dconst0 : UInt64) (FP.dconst0 : UInt64)) ∧ (wX4_down (FP.dmul (FP.dconst0 : UInt64) (FP.dconst0 : UInt64)) (fun r105 => (vf_n64 (FP.dmul r101 r101) ∧ (wX4_up (FP.dmul r101 r101) (fun r106 => (wX4_putUp c a r105 r106 (fun  X107 => kr X107)))))))))))))
          else if (c.2.1 23 a.toNatClampNeg) = (11 : Int32) then
            (wX4_made (c.2.1 23 a.toNatClampNeg) (c.2.2 34 (c.2.1 24 a.toNatClampNeg).toNatClampNeg) (FP.dconst0 : UInt64) (fun r108 => (wX4_made (c.2.1 23 a.toNatClampNeg) (c.2.2 35 (c.2.1 24 a.toNatClampNeg).toNatClampNeg) (c.2.2 35 (c.2.1 25 a.toNatClampNeg).toNatClampNeg) (fun r109 => (wX4_put c a r108 r109 (fun  X110 => kr X110))))))
          else
            (wX4_put c a (FP.dneg (c.2.2 35 (c.2.1 24 a.toNatClampNeg).toNatClampNeg)) (FP.dneg (c.2.2 34 (c.2.1 24 a.toNatClampNeg).toNatClampNeg)) (fun  X111 => kr X111))))))))
      else
        (vp_in a 32 ∧ (vp_in (c.2.1 25 a.toNatClampNeg) 32 ∧ (wX4_isTwo (c.2.1 23 a.toNatClampNeg) (fun r115 => (if r115 = 0 then
          (if (c.2.1 23 a.toNatClampNeg).toInt < 2 ∨ 12 < (c.2.1 23 a.toNatClampNeg).toInt then
            (wX4_made (c.2.1 23 a.toNatClampNeg) (c.2.2 34 (c.2.1 24 a.toNatClampNeg).toNatClampNeg) (c.2.2 34 (c.2.1 25 a.toNatClampNeg).toNatClampNeg) (fun r169 => (wX4_made (c.2.1 23 a.toNatClampNeg) (c.2.2 35 (c.2.1 24 a.toNatClampNeg).toNatClampNeg) (FP.dconst0 : UInt64) (fun r170 => (wX4_put c a r169 r170 (fun  X171 => kr X171))))))
          else if (c.2.1 23 a.toNatClampNeg) = (2 : Int32) then
            (wX4_added (c.2.2 34 (c.2.1 24 a.toNatClampNeg).toNatClampNeg) (c.2.2 34 (c.2.1 25 a.toNatClampNeg).toNatClampNeg) (fun r116 => (wX4_down r116 (fun r117 => (wX4_added (c.2.2 35 (c.2.1 24 a.toNatClampNeg).toNatClampNeg) (FP.dconst0 : UInt64) (fun r118 => (wX4_up r118 (fun r119 => (wX4_put c a r117 r119 (fun  X120 => kr X120))))))))))
          else if (c.2.1 23 a.toNatClampNeg) = (3 : Int32) then
            (wX4_lessened (c.2.2 34 (c.2.1 24 a.toNatClampNeg).toNatClampNeg) (FP.dconst0 : UInt64) (fun r121 => (wX4_down r121 (fun r122 => (wX4_lessened (c.2.2 35 (c.2.1 24 a.toNatClampNeg).toNatClampNeg) (c.2.2 34 (c.2.1 25 a.toNatClampNeg).toNatClampNeg) (fun r123 => (wX4_up r123 (fun r124 => (wX4_put c a r122 r124 (fun  X125 => kr X125))))))))))
          else if (c.2.1 23 a.toNatClampNeg) = (4 : Int32) then
            (wX4_timed (c.2.2 34 (c.2.1 24 a.toNatClampNeg).toNatClampNeg) (c.2.2 34 (c.2.1 25 a.toNatClampNeg).toNatClampNeg) (fun r126 => (wX4_timed (c.2.2 34 (c.2.1 24 a.toNatClampNeg).toNatClampNeg) (FP.dconst0 : UInt64) (fun r127 => (wX4_timed (c.2.2 35 (c.2.1 24 a.toNatClampNeg).toNatClampNeg) (c.2.2 34 (c.2.1 25 a.toNatClampNeg).toNatClampNeg) (fun r128 => (wX4_timed (c.2.2 35 (c.2.1 24 a.toNatClampNeg).toNatClampNeg) (FP.dconst0 : UInt64) (fun r129 => (wX4_putFour c a r126 r127 r128 r129 (fun  X130 => kr X130))))))))))
          else if (c.2.1 23 a.toNatClampNeg) = (5 : Int32) then
            (if 0 < (Op.cmpValue (FP.dcmp (c.2.2 34 (c.2.1 25 a.toNatClampNeg).toNatClampNeg) (FP.dconst0 : UInt64)) .l) then
              (wX4_divided (c.2.2 34 (c.2.1 24 a.toNatClampNeg).toNatClampNeg) (c.2.2 34 (c.2.1 25 a.toNatClampNeg).toNatClampNeg) (fun r131 => (wX4_divided (c.2.2 34 (c.2.1 24 a.toNatClampNeg).toNatClampNeg) (FP.dconst0 : UInt64) (fun r132 => (wX4_divided (c.2.2 35 (c.2.1 24 a.toNatClampNeg).toNatClampNeg) (c.2.2 34 (c.2.1 25 a.toNatClampNeg).toNatClampNeg) (fun r133 => (wX4_divided (c.2.2 35 (c.2.1 24 a.toNatClampNeg).toNatClampNeg) (FP.dconst0 : UInt64) (fun r134 => (wX4_putFour c a r131 r132 r133 r134 (fun  X135 => kr X135))))))))))
            else
              (if (Op.cmpValue (FP.dcmp (FP.dconst0 : UInt64) (FP.dconst0 : UInt64)) .g) < 0 then
                (wX4_divided (c.2.2 34 (c.2.1 24 a.toNatClampNeg).toNatClampNeg) (c.2.2 34 (c.2.1 25 a.toNatClampNeg).toNatClampNeg) (fun r136 => (wX4_divided (c.2.2 34 (c.2.1 24 a.toNatClampNeg).toNatClampNeg) (FP.dconst0 : UInt64) (fun r137 => (wX4_divided (c.2.2 35 (c.2.1 24 a.toNatClampNeg).toNatClampNeg) (c.2.2 34 (c.2.1 25 a.toNatClampNeg).toNatClampNeg) (fun r138 => (wX4_divided (c.2.2 35 (c.2.1 24 a.toNatClampNeg).toNatClampNeg) (FP.dconst0 : UInt64) (fun r139 => (wX4_putFour c a r136 r137 r138 r139 (fun  X140 => kr X140))))))))))
              else
                (wX4_put c a (9221120237041090560 : UInt64) (9221120237041090560 : UInt64) (fun  X141 => kr X141))))
          else if (c.2.1 23 a.toNatClampNeg) = (6 : Int32) then
            (wX4_made (c.2.1 23 a.toNatClampNeg) (c.2.2 34 (c.2.1 24 a.toNatClampNeg).toNatClampNeg) (c.2.2 34 (c.2.1 25 a.toNatClampNeg).toNatClampNeg) (fun r142 => (wX4_made (c.2.1 23 a.toNatClampNeg) (c.2.2 35 (c.2.1 24 a.toNatClampNeg).toNatClampNeg) (FP.dconst0 : UInt64) (fun r143 => (wX4_put c a r142 r143 (fun  X144 => kr X144))))))
          else if (c.2.1 23 a.toNatClampNeg) = (7 : Int32) then
            (wX4_made (c.2.1 23 a.toNatClampNeg) (c.2.2 34 (c.2.1 24 a.toNatClampNeg).toNatClampNeg) (c.2.2 34 (c.2.1 25 a.toNatClampNeg).toNatClampNeg) (fun r145 => (wX4_made (c.2.1 23 a.toNatClampNeg) (c.2.2 35 (c.2.1 24 a.toNatClampNeg).toNatClampNeg) (FP.dconst0 : UInt64) (fun r146 => (wX4_put c a r145 r146 (fun  X147 => kr X147))))))
          else if (c.2.1 23 a.toNatClampNeg) = (8 : Int32) then
            (wX4_sizeLow (c.2.2 34 (c.2.1 24 a.toNatClampNeg).toNatClampNeg) (c.2.2 35 (c.2.1 24 a.toNatClampNeg).toNatClampNeg) (fun r148 => (wX4_sizeHigh (c.2.2 34 (c.2.1 24 a.toNatClampNeg).toNatClampNeg) (c.2.2 35 (c.2.1 24 a.toNatClampNeg).toNatClampNeg) (fun r149 => (wX4_putUp c a r148 r149 (fun  X150 => kr X150))))))
          else if (c.2.1 23 a.toNatClampNeg) = (9 : Int32) then
            (if 0 ≤ (Op.cmpValue (FP.dcmp (c.2.2 34 (c.2.1 24 a.toNatClampNeg).toNatClampNeg) (FP.dconst0 : UInt64)) .g) then
              (wX4_root (c.2.2 34 (c.2.1 24 a.toNatClampNeg).toNatClampNeg) (fun r151 => (wX4_down r151 (fun r152 => (wX4_root (c.2.2 35 (c.2.1 24 a.toNatClampNeg).toNatClampNeg) (fun r153 => (wX4_up r153 (fun r154 => (wX4_putUp c a r152 r154 (fun  X155 => kr X155))))))))))
            else
              (wX4_put c a (9221120237041090560 : UInt64) (9221120237041090560 : UInt64) (fun  X156 => kr X156)))
          else if (c.2.1 23 a.toNatClampNeg) = (10 : Int32) then
            (wX4_sizeLow (c.2.2 34 (c.2.1 24 a.toNatClampNeg).toNatClampNeg) (c.2.2 35 (c.2.1 24 a.toNatClampNeg).toNatClampNeg) (fun r157 => (wX4_sizeHigh (c.2.2 34 (c.2.1 24 a.toNatClampNeg).toNatClampNeg) (c.2.2 35 (c.2.1 24 a.toNatClampNeg).toNatClampNeg) (fun r158 => (if 0 ≤ (Op.cmpValue (FP.dcmp r157 (FP.dconst0 : UInt64)) .g) then
              (vf_n64 (FP.dmul r157 r157) ∧ (wX4_down (FP.dmul r157 r157) (fun r159 => (vf_n64 (FP.dmul r158 r158) ∧ (wX4_up (FP.dmul r158 r158) (fun r160 => (wX4_putUp c a r159 r160 (fun  X161 => kr X161))))))))
            else
              (vf_n64 (FP.dmul (FP.dconst0 : UInt64) (FP.dconst0 : UInt64)) ∧ (wX4_down (FP.dmul (FP.dconst0 : UInt64) (FP.dconst0 : UInt64)) (fun r162 => (vf_n64 (FP.dmul r158 r158) ∧ (wX4_up (FP.dmul r158 r158) (fun r163 => (wX4_putUp c a r162 r163 (fun  X164 => kr X164)))))))))))))
          else if (c.2.1 23 a.toNatClampNeg) = (11 : Int32) then
            (wX4_made (c.2.1 23 a.toNatClampNeg) (c.2.2 34 (c.2.1 24 a.toNatClampNeg).toNatClampNeg) (c.2.2 34 (c.2.1 25 a.toNatClampNeg).toNatClampNeg) (fun r165 => (wX4_made (c.2.1 23 a.toNatClampNeg) (c.2.2 35 (c.2.1 24 a.toNatClampNeg).toNatClampNeg) (FP.dconst0 : UInt64) (fun r166 => (wX4_put c a r165 r166 (fun  X167 => kr X167))))))
          else
            (wX4_put c a (FP.dneg (c.2.2 35 (c.2.1 24 a.toNatClampNeg).toNatClampNeg)) (FP.dneg (c.2.2 34 (c.2.1 24 a.toNatClampNeg).toNatClampNeg)) (fun  X168 => kr X168)))
        else
          (vp_in a 32 ∧ (vp_in (c.2.1 25 a.toNatClampNeg) 32 ∧ (if (c.2.1 23 a.toNatClampNeg).toInt < 2 ∨ 12 < (c.2.1 23 a.toNatClampNeg).toInt then
            (wX4_made (c.2.1 23 a.toNatClampNeg) (c.2.2 34 (c.2.1 24 a.toNatClampNeg).toNatClampNeg) (c.2.2 34 (c.2.1 25 a.toNatClampNeg).toNatClampNeg) (fun r225 => (wX4_made (c.2.1 23 a.toNatClampNeg) (c.2.2 35 (c.2.1 24 a.toNatClampNeg).toNatClampNeg) (c.2.2 35 (c.2.1 25 a.toNatClampNeg).toNatClampNeg) (fun r226 => (wX4_put c a r225 r226 (fun  X227 => kr X227))))))
          else if (c.2.1 23 a.toNatClampNeg) = (2 : Int32) then
            (wX4_added (c.2.2 34 (c.2.1 24 a.toNatClampNeg).toNatClampNeg) (c.2.2 34 (c.2.1 25 a.toNatClampNeg).toNatClampNeg) (fun r172 => (wX4_down r172 (fun r173 => (wX4_added (c.2.2 35 (c.2.1 24 a.toNatClampNeg).toNatClampNeg) (c.2.2 35 (c.2.1 25 a.toNatClampNeg).toNatClampNeg) (fun r174 => (wX4_up r174 (fun r175 => (wX4_put c a r173 r175 (fun  X176 => kr X176))))))))))
          else if (c.2.1 23 a.toNatClampNeg) = (3 : Int32) then
            (wX4_lessened (c.2.2 34 (c.2.1 24 a.toNatClampNeg).toNatClampNeg) (c.2.2 35 (c.2.1 25 a.toNatClampNeg).toNatClampNeg) (fun r177 => (wX4_down r177 (fun r178 => (wX4_lessened (c.2.2 35 (c.2.1 24 a.toNatClampNeg).toNatClampNeg) (c.2.2 34 (c.2.1 25 a.toNatClampNeg).toNatClampNeg) (fun r179 => (wX4_up r179 (fun r180 => (wX4_put c a r178 r180 (fun  X181 => kr X181))))))))))
          else if (c.2.1 23 a.toNatClampNeg) = (4 : Int32) then
            (wX4_timed (c.2.2 34 (c.2.1 24 a.toNatClampNeg).toNatClampNeg) (c.2.2 34 (c.2.1 25 a.toNatClampNeg).toNatClampNeg) (fun r182 => (wX4_timed (c.2.2 34 (c.2.1 24 a.toNatClampNeg).toNatClampNeg) (c.2.2 35 (c.2.1 25 a.toNatClampNeg).toNatClampNeg) (fun r183 => (wX4_timed (c.2.2 35 (c.2.1 24 a.toNatClampNeg).toNatClampNeg) (c.2.2 34 (c.2.1 25 a.toNatClampNeg).toNatClampNeg) (fun r184 => (wX4_timed (c.2.2 35 (c.2.1 24 a.toNatClampNeg).toNatClampNeg) (c.2.2 35 (c.2.1 25 a.toNatClampNeg).toNatClampNeg) (fun r185 => (wX4_putFour c a r182 r183 r184 r185 (fun  X186 => kr X186))))))))))
          else if (c.2.1 23 a.toNatClampNeg) = (5 : Int32) then
            (if 0 < (Op.cmpValue (FP.dcmp (c.2.2 34 (c.2.1 25 a.toNatClampNeg).toNatClampNeg) (FP.dconst0 : UInt64)) .l) then
              (wX4_divided (c.2.2 34 (c.2.1 24 a.toNatClampNeg).toNatClampNeg) (c.2.2 34 (c.2.1 25 a.toNatClampNeg).toNatClampNeg) (fun r187 => (wX4_divided (c.2.2 34 (c.2.1 24 a.toNatClampNeg).toNatClampNeg) (c.2.2 35 (c.2.1 25 a.toNatClampNeg).toNatClampNeg) (fun r188 => (wX4_divided (c.2.2 35 (c.2.1 24 a.toNatClampNeg).toNatClampNeg) (c.2.2 34 (c.2.1 25 a.toNatClampNeg).toNatClampNeg) (fun r189 => (wX4_divided (c.2.2 35 (c.2.1 24 a.toNatClampNeg).toNatClampNeg) (c.2.2 35 (c.2.1 25 a.toNatClampNeg).toNatClampNeg) (fun r190 => (wX4_putFour c a r187 r188 r189 r190 (fun  X191 => kr X191))))))))))
            else
              (if (Op.cmpValue (FP.dcmp (c.2.2 35 (c.2.1 25 a.toNatClampNeg).toNatClampNeg) (FP.dconst0 : UInt64)) .g) < 0 then
                (wX4_divided (c.2.2 34 (c.2.1 24 a.toNatClampNeg).toNatClampNeg) (c.2.2 34 (c.2.1 25 a.toNatClampNeg).toNatClampNeg) (fun r192 => (wX4_divided (c.2.2 34 (c.2.1 24 a.toNatClampNeg).toNatClampNeg) (c.2.2 35 (c.2.1 25 a.toNatClampNeg).toNatClampNeg) (fun r193 => (wX4_divided (c.2.2 35 (c.2.1 24 a.toNatClampNeg).toNatClampNeg) (c.2.2 34 (c.2.1 25 a.toNatClampNeg).toNatClampNeg) (fun r194 => (wX4_divided (c.2.2 35 (c.2.1 24 a.toNatClampNeg).toNatClampNeg) (c.2.2 35 (c.2.1 25 a.toNatClampNeg).toNatClampNeg) (fun r195 => (wX4_putFour c a r192 r193 r194 r195 (fun  X196 => kr X196))))))))))
              else
                (wX4_put c a (9221120237041090560 : UInt64) (9221120237041090560 : UInt64) (fun  X197 => kr X197))))
          else if (c.2.1 23 a.toNatClampNeg) = (6 : Int32) then
            (wX4_made (c.2.1 23 a.toNatClampNeg) (c.2.2 34 (c.2.1 24 a.toNatClampNeg).toNatClampNeg) (c.2.2 34 (c.2.1 25 a.toNatClampNeg).toNatClampNeg) (fun r198 => (wX4_made (c.2.1 23 a.toNatClampNeg) (c.2.2 35 (c.2.1 24 a.toNatClampNeg).toNatClampNeg) (c.2.2 35 (c.2.1 25 a.toNatClampNeg).toNatClampNeg) (fun r199 => (wX4_put c a r198 r199 (fun  X200 => kr X200))))))
          else if (c.2.1 23 a.toNatClampNeg) = (7 : Int32) then
            (wX4_made (c.2.1 23 a.toNatClampNeg) (c.2.2 34 (c.2.1 24 a.toNatClampNeg).toNatClampNeg) (c.2.2 34 (c.2.1 25 a.toNatClampNeg).toNatClampNeg) (fun r201 => (wX4_made (c.2.1 23 a.toNatClampNeg) (c.2.2 35 (c.2.1 24 a.toNatClampNeg).toNatClampNeg) (c.2.2 35 (c.2.1 25 a.toNatClampNeg).toNatClampNeg) (fun r202 => (wX4_put c a r201 r202 (fun  X203 => kr X203))))))
          else if (c.2.1 23 a.toNatClampNeg) = (8 : Int32) then
            (wX4_sizeLow (c.2.2 34 (c.2.1 24 a.toNatClampNeg).toNatClampNeg) (c.2.2 35 (c.2.1 24 a.toNatClampNeg).toNatClampNeg) (fun r204 => (wX4_sizeHigh (c.2.2 34 (c.2.1 24 a.toNatClampNeg).toNatClampNeg) (c.2.2 35 (c.2.1 24 a.toNatClampNeg).toNatClampNeg) (fun r205 => (wX4_putUp c a r204 r205 (fun  X206 => kr X206))))))
          else if (c.2.1 23 a.toNatClampNeg) = (9 : Int32) then
            (if 0 ≤ (Op.cmpValue (FP.dcmp (c.2.2 34 (c.2.1 24 a.toNatClampNeg).toNatClampNeg) (FP.dconst0 : UInt64)) .g) then
              (wX4_root (c.2.2 34 (c.2.1 24 a.toNatClampNeg).toNatClampNeg) (fun r207 => (wX4_down r207 (fun r208 => (wX4_root (c.2.2 35 (c.2.1 24 a.toNatClampNeg).toNatClampNeg) (fun r209 => (wX4_up r209 (fun r210 => (wX4_putUp c a r208 r210 (fun  X211 => kr X211))))))))))
            else
              (wX4_put c a (9221120237041090560 : UInt64) (9221120237041090560 : UInt64) (fun  X212 => kr X212)))
          else if (c.2.1 23 a.toNatClampNeg) = (10 : Int32) then
            (wX4_sizeLow (c.2.2 34 (c.2.1 24 a.toNatClampNeg).toNatClampNeg) (c.2.2 35 (c.2.1 24 a.toNatClampNeg).toNatClampNeg) (fun r213 => (wX4_sizeHigh (c.2.2 34 (c.2.1 24 a.toNatClampNeg).toNatClampNeg) (c.2.2 35 (c.2.1 24 a.toNatClampNeg).toNatClampNeg) (fun r214 => (if 0 ≤ (Op.cmpValue (FP.dcmp r213 (FP.dconst0 : UInt64)) .g) then
              (vf_n64 (FP.dmul r213 r213) ∧ (wX4_down (FP.dmul r213 r213) (fun r215 => (vf_n64 (FP.dmul r214 r214) ∧ (wX4_up (FP.dmul r214 r214) (fun r216 => (wX4_putUp c a r215 r216 (fun  X217 => kr X217))))))))
            else
              (vf_n64 (FP.dmul (FP.dconst0 : UInt64) (FP.dconst0 : UInt64)) ∧ (wX4_down (FP.dmul (FP.dconst0 : UInt64) (FP.dconst0 : UInt64)) (fun r218 => (vf_n64 (FP.dmul r214 r214) ∧ (wX4_up (FP.dmul r214 r214) (fun r219 => (wX4_putUp c a r218 r219 (fun  X220 => kr X220)))))))))))))
          else if (c.2.1 23 a.toNatClampNeg) = (11 : Int32) then
            (wX4_made (c.2.1 23 a.toNatClampNeg) (c.2.2 34 (c.2.1 24 a.toNatClampNeg).toNatClampNeg) (c.2.2 34 (c.2.1 25 a.toNatClampNeg).toNatClampNeg) (fun r221 => (wX4_made (c.2.1 23 a.toNatClampNeg) (c.2.2 35 (c.2.1 24 a.toNatClampNeg).toNatClampNeg) (c.2.2 35 (c.2.1 25 a.toNatClampNeg).toNatClampNeg) (fun r222 => (wX4_put c a r221 r222 (fun  X223 => kr X223))))))
          else
            (wX4_put c a (FP.dneg (c.2.2 35 (c.2.1 24 a.toNatClampNeg).toNatClampNeg)) (FP.dneg (c.2.2 34 (c.2.1 24 a.toNatClampNeg).toNatClampNeg)) (fun  X224 => kr X224))))))))))))))))))))
set_option maxRecDepth 20000 in
theorem mbX4_enclose_0 {c : MS} {a : Int32} {b : Int32} {kr kq : MS → Prop}  (hr : ∀ X, kr X → kq X)  (h : bX4_enclose_0 c a b kr ) : bX4_enclose_0 c a b kq  := by
  unfold bX4_enclose_0 at h ⊢
  obtain ⟨hi, h⟩ := h
  refine And.intro hi ?_
  by_cases hc : (c.2.1 23 a.toNatClampNeg) = 0
  · rw [if_pos hc] at h ⊢
    obtain ⟨hi, h⟩ := h
    refine And.intro hi ?_
    obtain ⟨hi, h⟩ := h
    refine And.intro hi ?_
    obtain ⟨hi, h⟩ := h
    refine And.intro hi ?_
    obtain ⟨hi, h⟩ := h
    refine And.intro hi ?_
    refine mnX4_put ?_ h
    intro  X229 h
    exact hr _ h
  · rw [if_neg hc] at h ⊢
    by_cases hc : (c.2.1 23 a.toNatClampNeg) = (1 : Int32)
    · rw [if_pos hc] at h ⊢
      obtain ⟨hi, h⟩ := h
      refine And.intro hi ?_
      obtain ⟨hi, h⟩ := h
      refine And.intro hi ?_
      refine mnX4_put ?_ h
      intro  X228 h
      exact hr _ h
    · rw [if_neg hc] at h ⊢
      obtain ⟨hi, h⟩ := h
      refine And.intro hi ?_
      obtain ⟨hi, h⟩ := h
      refine And.intro hi ?_
      obtain ⟨hi, h⟩ := h
      refine And.intro hi ?_
      obtain ⟨hi, h⟩ := h
      refine And.intro hi ?_
      refine mnX4_isTwo ?_ h
      intro r1 _ h
      by_cases hc : r1 = 0
      · rw [if_pos hc] at h ⊢
        refine mnX4_isTwo ?_ h
        intro r2 _ h
        by_cases hc : r2 = 0
        · rw [if_pos hc] at h ⊢
          by_cases hc : (c.2.1 23 a.toNatClampNeg).toInt < 2 ∨ 12 < (c.2.1 23 a.toNatClampNeg).toInt
          · rw [if_pos hc] at h ⊢
            refine mnX4_made ?_ h
            intro r56 h
            refine mnX4_made ?_ h
            intro r57 h
            refine mnX4_put ?_ h
            intro  X58 h
            exact hr _ h
          rw [if_neg hc] at h ⊢
          by_cases hc : (c.2.1 23 a.toNatClampNeg) = (2 : Int32)
          · rw [if_pos hc] at h ⊢
            refine mnX4_added ?_ h
            intro r3 h
            refine mnX4_down ?_ h
            intro r4 h
            refine mnX4_added ?_ h
            intro r5 h
            refine mnX4_up ?_ h
            intro r6 h
            refine mnX4_put ?_ h
            intro  X7 h
            exact hr _ h
          rw [if_neg hc] at h ⊢
          by_cases hc : (c.2.1 23 a.toNatClampNeg) = (3 : Int32)
          · rw [if_pos hc] at h ⊢
            refine mnX4_lessened ?_ h
            intro r8 h
            refine mnX4_down ?_ h
            intro r9 h
            refine mnX4_lessened ?_ h
            intro r10 h
            refine mnX4_up ?_ h
            intro r11 h
            refine mnX4_put ?_ h
            intro  X12 h
            exact hr _ h
          rw [if_neg hc] at h ⊢
          by_cases hc : (c.2.1 23 a.toNatClampNeg) = (4 : Int32)
          · rw [if_pos hc] at h ⊢
            refine mnX4_timed ?_ h
            intro r13 h
            refine mnX4_timed ?_ h
            intro r14 h
            refine mnX4_timed ?_ h
            intro r15 h
            refine mnX4_timed ?_ h
            intro r16 h
            refine mnX4_putFour ?_ h
            intro  X17 h
            exact hr _ h
          rw [if_neg hc] at h ⊢
          by_cases hc : (c.2.1 23 a.toNatClampNeg) = (5 : Int32)
          · rw [if_pos hc] at h ⊢
            by_cases hc : 0 < (Op.cmpValue (FP.dcmp (FP.dconst0 : UInt64) (FP.dconst0 : UInt64)) .l)
            · rw [if_pos hc] at h ⊢
              refine mnX4_divided ?_ h
              intro r18 h
              refine mnX4_divided ?_ h
              intro r19 h
              refine mnX4_divided ?_ h
              intro r20 h
              refine mnX4_divided ?_ h
              intro r21 h
              refine mnX4_putFour ?_ h
              intro  X22 h
              exact hr _ h
            · rw [if_neg hc] at h ⊢
              by_cases hc : (Op.cmpValue (FP.dcmp (FP.dconst0 : UInt64) (FP.dconst0 : UInt64)) .g) < 0
              · rw [if_pos hc] at h ⊢
                refine mnX4_divided ?_ h
                intro r23 h
                refine mnX4_divided ?_ h
                intro r24 h
                refine mnX4_divided ?_ h
                intro r25 h
                refine mnX4_divided ?_ h
                intro r26 h
                refine mnX4_putFour ?_ h
                intro  X27 h
                exact hr _ h
              · rw [if_neg hc] at h ⊢
                refine mnX4_put ?_ h
                intro  X28 h
                exact hr _ h
          rw [if_neg hc] at h ⊢
          by_cases hc : (c.2.1 23 a.toNatClampNeg) = (6 : Int32)
          · rw [if_pos hc] at h ⊢
            refine mnX4_made ?_ h
            intro r29 h
            refine mnX4_made ?_ h
            intro r30 h
            refine mnX4_put ?_ h
            intro  X31 h
            exact hr _ h
          rw [if_neg hc] at h ⊢
          by_cases hc : (c.2.1 23 a.toNatClampNeg) = (7 : Int32)
          · rw [if_pos hc] at h ⊢
            refine mnX4_made ?_ h
            intro r32 h
            refine mnX4_made ?_ h
            intro r33 h
            refine mnX4_put ?_ h
            intro  X34 h
            exact hr _ h
          rw [if_neg hc] at h ⊢
          by_cases hc : (c.2.1 23 a.toNatClampNeg) = (8 : Int32)
          · rw [if_pos hc] at h ⊢
            refine mnX4_sizeLow ?_ h
            intro r35 h
            refine mnX4_sizeHigh ?_ h
            intro r36 h
            refine mnX4_putUp ?_ h
            intro  X37 h
            exact hr _ h
          rw [if_neg hc] at h ⊢
          by_cases hc : (c.2.1 23 a.toNatClampNeg) = (9 : Int32)
          · rw [if_pos hc] at h ⊢
            by_cases hc : 0 ≤ (Op.cmpValue (FP.dcmp (c.2.2 34 (c.2.1 24 a.toNatClampNeg).toNatClampNeg) (FP.dconst0 : UInt64)) .g)
            · rw [if_pos hc] at h ⊢
              refine mnX4_root ?_ h
              intro r38 h
              refine mnX4_down ?_ h
              intro r39 h
              refine mnX4_root ?_ h
              intro r40 h
              refine mnX4_up ?_ h
              intro r41 h
              refine mnX4_putUp ?_ h
              intro  X42 h
              exact hr _ h
            · rw [if_neg hc] at h ⊢
              refine mnX4_put ?_ h
              intro  X43 h
              exact hr _ h
          rw [if_neg hc] at h ⊢
          by_cases hc : (c.2.1 23 a.toNatClampNeg) = (10 : Int32)
          · rw [if_pos hc] at h ⊢
            refine mnX4_sizeLow ?_ h
            intro r44 h
            refine mnX4_sizeHigh ?_ h
            intro r45 h
            by_cases hc : 0 ≤ (Op.cmpValue (FP.dcmp r44 (FP.dconst0 : UInt64)) .g)
            · rw [if_pos hc] at h ⊢
              obtain ⟨hi, h⟩ := h
              refine And.intro hi ?_
              refine mnX4_down ?_ h
              intro r46 h
              obtain ⟨hi, h⟩ := h
              refine And.intro hi ?_
              refine mnX4_up ?_ h
              intro r47 h
              refine mnX4_putUp ?_ h
              intro  X48 h
              exact hr _ h
            · rw [if_neg hc] at h ⊢
              obtain ⟨hi, h⟩ := h
              refine And.intro hi ?_
              refine mnX4_down ?_ h
              intro r49 h
              obtain ⟨hi, h⟩ := h
              refine And.intro hi ?_
              refine mnX4_up ?_ h
              intro r50 h
              refine mnX4_putUp ?_ h
              intro  X51 h
              exact hr _ h
          rw [if_neg hc] at h ⊢
          by_cases hc : (c.2.1 23 a.toNatClampNeg) = (11 : Int32)
          · rw [if_pos hc] at h ⊢
            refine mnX4_made ?_ h
            intro r52 h
            refine mnX4_made ?_ h
            intro r53 h
            refine mnX4_put ?_ h
            intro  X54 h
            exact hr _ h
          rw [if_neg hc] at h ⊢
          refine mnX4_put ?_ h
          intro  X55 h
          exact hr _ h
        · rw [if_neg hc] at h ⊢
          obtain ⟨hi, h⟩ := h
          refine And.intro hi ?_
          obtain ⟨hi, h⟩ := h
          refine And.intro hi ?_
          by_cases hc : (c.2.1 23 a.toNatClampNeg).toInt < 2 ∨ 12 < (c.2.1 23 a.toNatClampNeg).toInt
          · rw [if_pos hc] at h ⊢
            refine mnX4_made ?_ h
            intro r112 h
            refine mnX4_made ?_ h
            intro r113 h
            refine mnX4_put ?_ h
            intro  X114 h
            exact hr _ h
          rw [if_neg hc] at h ⊢
          by_cases hc : (c.2.1 23 a.toNatClampNeg) = (2 : Int32)
          · rw [if_pos hc] at h ⊢
            refine mnX4_added ?_ h
            intro r59 h
            refine mnX4_down ?_ h
            intro r60 h
            refine mnX4_added ?_ h
            intro r61 h
            refine mnX4_up ?_ h
            intro r62 h
            refine mnX4_put ?_ h
            intro  X63 h
            exact hr _ h
          rw [if_neg hc] at h ⊢
          by_cases hc : (c.2.1 23 a.toNatClampNeg) = (3 : Int32)
          · rw [if_pos hc] at h ⊢
            refine mnX4_lessened ?_ h
            intro r64 h
            refine mnX4_down ?_ h
            intro r65 h
            refine mnX4_lessened ?_ h
            intro r66 h
            refine mnX4_up ?_ h
            intro r67 h
            refine mnX4_put ?_ h
            intro  X68 h
            exact hr _ h
          rw [if_neg hc] at h ⊢
          by_cases hc : (c.2.1 23 a.toNatClampNeg) = (4 : Int32)
          · rw [if_pos hc] at h ⊢
            refine mnX4_timed ?_ h
            intro r69 h
            refine mnX4_timed ?_ h
            intro r70 h
            refine mnX4_timed ?_ h
            intro r71 h
            refine mnX4_timed ?_ h
            intro r72 h
            refine mnX4_putFour ?_ h
            intro  X73 h
            exact hr _ h
          rw [if_neg hc] at h ⊢
          by_cases hc : (c.2.1 23 a.toNatClampNeg) = (5 : Int32)
          · rw [if_pos hc] at h ⊢
            by_cases hc : 0 < (Op.cmpValue (FP.dcmp (FP.dconst0 : UInt64) (FP.dconst0 : UInt64)) .l)
            · rw [if_pos hc] at h ⊢
              refine mnX4_divided ?_ h
              intro r74 h
              refine mnX4_divided ?_ h
              intro r75 h
              refine mnX4_divided ?_ h
              intro r76 h
              refine mnX4_divided ?_ h
              intro r77 h
              refine mnX4_putFour ?_ h
              intro  X78 h
              exact hr _ h
            · rw [if_neg hc] at h ⊢
              by_cases hc : (Op.cmpValue (FP.dcmp (c.2.2 35 (c.2.1 25 a.toNatClampNeg).toNatClampNeg) (FP.dconst0 : UInt64)) .g) < 0
              · rw [if_pos hc] at h ⊢
                refine mnX4_divided ?_ h
                intro r79 h
                refine mnX4_divided ?_ h
                intro r80 h
                refine mnX4_divided ?_ h
                intro r81 h
                refine mnX4_divided ?_ h
                intro r82 h
                refine mnX4_putFour ?_ h
                intro  X83 h
                exact hr _ h
              · rw [if_neg hc] at h ⊢
                refine mnX4_put ?_ h
                intro  X84 h
                exact hr _ h
          rw [if_neg hc] at h ⊢
          by_cases hc : (c.2.1 23 a.toNatClampNeg) = (6 : Int32)
          · rw [if_pos hc] at h ⊢
            refine mnX4_made ?_ h
            intro r85 h
            refine mnX4_made ?_ h
            intro r86 h
            refine mnX4_put ?_ h
            intro  X87 h
            exact hr _ h
          rw [if_neg hc] at h ⊢
          by_cases hc : (c.2.1 23 a.toNatClampNeg) = (7 : Int32)
          · rw [if_pos hc] at h ⊢
            refine mnX4_made ?_ h
            intro r88 h
            refine mnX4_made ?_ h
            intro r89 h
            refine mnX4_put ?_ h
            intro  X90 h
            exact hr _ h
          rw [if_neg hc] at h ⊢
          by_cases hc : (c.2.1 23 a.toNatClampNeg) = (8 : Int32)
          · rw [if_pos hc] at h ⊢
            refine mnX4_sizeLow ?_ h
            intro r91 h
            refine mnX4_sizeHigh ?_ h
            intro r92 h
            refine mnX4_putUp ?_ h
            intro  X93 h
            exact hr _ h
          rw [if_neg hc] at h ⊢
          by_cases hc : (c.2.1 23 a.toNatClampNeg) = (9 : Int32)
          · rw [if_pos hc] at h ⊢
            by_cases hc : 0 ≤ (Op.cmpValue (FP.dcmp (c.2.2 34 (c.2.1 24 a.toNatClampNeg).toNatClampNeg) (FP.dconst0 : UInt64)) .g)
            · rw [if_pos hc] at h ⊢
              refine mnX4_root ?_ h
              intro r94 h
              refine mnX4_down ?_ h
              intro r95 h
              refine mnX4_root ?_ h
              intro r96 h
              refine mnX4_up ?_ h
              intro r97 h
              refine mnX4_putUp ?_ h
              intro  X98 h
              exact hr _ h
            · rw [if_neg hc] at h ⊢
              refine mnX4_put ?_ h
              intro  X99 h
              exact hr _ h
          rw [if_neg hc] at h ⊢
          by_cases hc : (c.2.1 23 a.toNatClampNeg) = (10 : Int32)
          · rw [if_pos hc] at h ⊢
            refine mnX4_sizeLow ?_ h
            intro r100 h
            refine mnX4_sizeHigh ?_ h
            intro r101 h
            by_cases hc : 0 ≤ (Op.cmpValue (FP.dcmp r100 (FP.dconst0 : UInt64)) .g)
            · rw [if_pos hc] at h ⊢
              obtain ⟨hi, h⟩ := h
              refine And.intro hi ?_
              refine mnX4_down ?_ h
              intro r102 h
              obtain ⟨hi, h⟩ := h
              refine And.intro hi ?_
              refine mnX4_up ?_ h
              intro r103 h
              refine mnX4_putUp ?_ h
              intro  X104 h
              exact hr _ h
            · rw [if_neg hc] at h ⊢
              obtain ⟨hi, h⟩ := h
              refine And.intro hi ?_
              refine mnX4_down ?_ h
              intro r105 h
              obtain ⟨hi, h⟩ := h
              refine And.intro hi ?_
              refine mnX4_up ?_ h
              intro r106 h
              refine mnX4_putUp ?_ h
              intro  X107 h
              exact hr _ h
          rw [if_neg hc] at h ⊢
          by_cases hc : (c.2.1 23 a.toNatClampNeg) = (11 : Int32)
          · rw [if_pos hc] at h ⊢
            refine mnX4_made ?_ h
            intro r108 h
            refine mnX4_made ?_ h
            intro r109 h
            refine mnX4_put ?_ h
            intro  X110 h
            exact hr _ h
          rw [if_neg hc] at h ⊢
          refine mnX4_put ?_ h
          intro  X111 h
          exact hr _ h
      · rw [if_neg hc] at h ⊢
        obtain ⟨hi, h⟩ := h
        refine And.intro hi ?_
        obtain ⟨hi, h⟩ := h
        refine And.intro hi ?_
        refine mnX4_isTwo ?_ h
        intro r115 _ h
        by_cases hc : r115 = 0
        · rw [if_pos hc] at h ⊢
          by_cases hc : (c.2.1 23 a.toNatClampNeg).toInt < 2 ∨ 12 < (c.2.1 23 a.toNatClampNeg).toInt
          · rw [if_pos hc] at h ⊢
            refine mnX4_made ?_ h
            intro r169 h
            refine mnX4_made ?_ h
            intro r170 h
            refine mnX4_put ?_ h
            intro  X171 h
            exact hr _ h
          rw [if_neg hc] at h ⊢
          by_cases hc : (c.2.1 23 a.toNatClampNeg) = (2 : Int32)
          · rw [if_pos hc] at h ⊢
            refine mnX4_added ?_ h
            intro r116 h
            refine mnX4_down ?_ h
            intro r117 h
            refine mnX4_added ?_ h
            intro r118 h
            refine mnX4_up ?_ h
            intro r119 h
            refine mnX4_put ?_ h
            intro  X120 h
            exact hr _ h
          rw [if_neg hc] at h ⊢
          by_cases hc : (c.2.1 23 a.toNatClampNeg) = (3 : Int32)
          · rw [if_pos hc] at h ⊢
            refine mnX4_lessened ?_ h
            intro r121 h
            refine mnX4_down ?_ h
            intro r122 h
            refine mnX4_lessened ?_ h
            intro r123 h
            refine mnX4_up ?_ h
            intro r124 h
            refine mnX4_put ?_ h
            intro  X125 h
            exact hr _ h
          rw [if_neg hc] at h ⊢
          by_cases hc : (c.2.1 23 a.toNatClampNeg) = (4 : Int32)
          · rw [if_pos hc] at h ⊢
            refine mnX4_timed ?_ h
            intro r126 h
            refine mnX4_timed ?_ h
            intro r127 h
            refine mnX4_timed ?_ h
            intro r128 h
            refine mnX4_timed ?_ h
            intro r129 h
            refine mnX4_putFour ?_ h
            intro  X130 h
            exact hr _ h
          rw [if_neg hc] at h ⊢
          by_cases hc : (c.2.1 23 a.toNatClampNeg) = (5 : Int32)
          · rw [if_pos hc] at h ⊢
            by_cases hc : 0 < (Op.cmpValue (FP.dcmp (c.2.2 34 (c.2.1 25 a.toNatClampNeg).toNatClampNeg) (FP.dconst0 : UInt64)) .l)
            · rw [if_pos hc] at h ⊢
              refine mnX4_divided ?_ h
              intro r131 h
              refine mnX4_divided ?_ h
              intro r132 h
              refine mnX4_divided ?_ h
              intro r133 h
              refine mnX4_divided ?_ h
              intro r134 h
              refine mnX4_putFour ?_ h
              intro  X135 h
              exact hr _ h
            · rw [if_neg hc] at h ⊢
              by_cases hc : (Op.cmpValue (FP.dcmp (FP.dconst0 : UInt64) (FP.dconst0 : UInt64)) .g) < 0
              · rw [if_pos hc] at h ⊢
                refine mnX4_divided ?_ h
                intro r136 h
                refine mnX4_divided ?_ h
                intro r137 h
                refine mnX4_divided ?_ h
                intro r138 h
                refine mnX4_divided ?_ h
                intro r139 h
                refine mnX4_putFour ?_ h
                intro  X140 h
                exact hr _ h
              · rw [if_neg hc] at h ⊢
                refine mnX4_put ?_ h
                intro  X141 h
                exact hr _ h
          rw [if_neg hc] at h ⊢
          by_cases hc : (c.2.1 23 a.toNatClampNeg) = (6 : Int32)
          · rw [if_pos hc] at h ⊢
            refine mnX4_made ?_ h
            intro r142 h
            refine mnX4_made ?_ h
            intro r143 h
            refine mnX4_put ?_ h
            intro  X144 h
            exact hr _ h
          rw [if_neg hc] at h ⊢
          by_cases hc : (c.2.1 23 a.toNatClampNeg) = (7 : Int32)
          · rw [if_pos hc] at h ⊢
            refine mnX4_made ?_ h
            intro r145 h
            refine mnX4_made ?_ h
            intro r146 h
            refine mnX4_put ?_ h
            intro  X147 h
            exact hr _ h
          rw [if_neg hc] at h ⊢
          by_cases hc : (c.2.1 23 a.toNatClampNeg) = (8 : Int32)
          · rw [if_pos hc] at h ⊢
            refine mnX4_sizeLow ?_ h
            intro r148 h
            refine mnX4_sizeHigh ?_ h
            intro r149 h
            refine mnX4_putUp ?_ h
            intro  X150 h
            exact hr _ h
          rw [if_neg hc] at h ⊢
          by_cases hc : (c.2.1 23 a.toNatClampNeg) = (9 : Int32)
          · rw [if_pos hc] at h ⊢
            by_cases hc : 0 ≤ (Op.cmpValue (FP.dcmp (c.2.2 34 (c.2.1 24 a.toNatClampNeg).toNatClampNeg) (FP.dconst0 : UInt64)) .g)
            · rw [if_pos hc] at h ⊢
              refine mnX4_root ?_ h
              intro r151 h
              refine mnX4_down ?_ h
              intro r152 h
              refine mnX4_root ?_ h
              intro r153 h
              refine mnX4_up ?_ h
              intro r154 h
              refine mnX4_putUp ?_ h
              intro  X155 h
              exact hr _ h
            · rw [if_neg hc] at h ⊢
              refine mnX4_put ?_ h
              intro  X156 h
              exact hr _ h
          rw [if_neg hc] at h ⊢
          by_cases hc : (c.2.1 23 a.toNatClampNeg) = (10 : Int32)
          · rw [if_pos hc] at h ⊢
            refine mnX4_sizeLow ?_ h
            intro r157 h
            refine mnX4_sizeHigh ?_ h
            intro r158 h
            by_cases hc : 0 ≤ (Op.cmpValue (FP.dcmp r157 (FP.dconst0 : UInt64)) .g)
            · rw [if_pos hc] at h ⊢
              obtain ⟨hi, h⟩ := h
              refine And.intro hi ?_
              refine mnX4_down ?_ h
              intro r159 h
              obtain ⟨hi, h⟩ := h
              refine And.intro hi ?_
              refine mnX4_up ?_ h
              intro r160 h
              refine mnX4_putUp ?_ h
              intro  X161 h
              exact hr _ h
            · rw [if_neg hc] at h ⊢
              obtain ⟨hi, h⟩ := h
              refine And.intro hi ?_
              refine mnX4_down ?_ h
              intro r162 h
              obtain ⟨hi, h⟩ := h
              refine And.intro hi ?_
              refine mnX4_up ?_ h
              intro r163 h
              refine mnX4_putUp ?_ h
              intro  X164 h
              exact hr _ h
          rw [if_neg hc] at h ⊢
          by_cases hc : (c.2.1 23 a.toNatClampNeg) = (11 : Int32)
          · rw [if_pos hc] at h ⊢
            refine mnX4_made ?_ h
            intro r165 h
            refine mnX4_made ?_ h
            intro r166 h
            refine mnX4_put ?_ h
            intro  X167 h
            exact hr _ h
          rw [if_neg hc] at h ⊢
          refine mnX4_put ?_ h
          intro  X168 h
          exact hr _ h
        · rw [if_neg hc] at h ⊢
          obtain ⟨hi, h⟩ := h
          refine And.intro hi ?_
          obtain ⟨hi, h⟩ := h
          refine And.intro hi ?_
          by_cases hc : (c.2.1 23 a.toNatClampNeg).toInt < 2 ∨ 12 < (c.2.1 23 a.toNatClampNeg).toInt
          · rw [if_pos hc] at h ⊢
            refine mnX4_made ?_ h
            intro r225 h
            refine mnX4_made ?_ h
            intro r226 h
            refine mnX4_put ?_ h
            intro  X227 h
            exact hr _ h
          rw [if_neg hc] at h ⊢
          by_cases hc : (c.2.1 23 a.toNatClampNeg) = (2 : Int32)
          · rw [if_pos hc] at h ⊢
            refine mnX4_added ?_ h
            intro r172 h
            refine mnX4_down ?_ h
            intro r173 h
            refine mnX4_added ?_ h
            intro r174 h
            refine mnX4_up ?_ h
            intro r175 h
            refine mnX4_put ?_ h
            intro  X176 h
            exact hr _ h
          rw [if_neg hc] at h ⊢
          by_cases hc : (c.2.1 23 a.toNatClampNeg) = (3 : Int32)
          · rw [if_pos hc] at h ⊢
            refine mnX4_lessened ?_ h
            intro r177 h
            refine mnX4_down ?_ h
            intro r178 h
            refine mnX4_lessened ?_ h
            intro r179 h
            refine mnX4_up ?_ h
            intro r180 h
            refine mnX4_put ?_ h
            intro  X181 h
            exact hr _ h
          rw [if_neg hc] at h ⊢
          by_cases hc : (c.2.1 23 a.toNatClampNeg) = (4 : Int32)
          · rw [if_pos hc] at h ⊢
            refine mnX4_timed ?_ h
            intro r182 h
            refine mnX4_timed ?_ h
            intro r183 h
            refine mnX4_timed ?_ h
            intro r184 h
            refine mnX4_timed ?_ h
            intro r185 h
            refine mnX4_putFour ?_ h
            intro  X186 h
            exact hr _ h
          rw [if_neg hc] at h ⊢
          by_cases hc : (c.2.1 23 a.toNatClampNeg) = (5 : Int32)
          · rw [if_pos hc] at h ⊢
            by_cases hc : 0 < (Op.cmpValue (FP.dcmp (c.2.2 34 (c.2.1 25 a.toNatClampNeg).toNatClampNeg) (FP.dconst0 : UInt64)) .l)
            · rw [if_pos hc] at h ⊢
              refine mnX4_divided ?_ h
              intro r187 h
              refine mnX4_divided ?_ h
              intro r188 h
              refine mnX4_divided ?_ h
              intro r189 h
              refine mnX4_divided ?_ h
              intro r190 h
              refine mnX4_putFour ?_ h
              intro  X191 h
              exact hr _ h
            · rw [if_neg hc] at h ⊢
              by_cases hc : (Op.cmpValue (FP.dcmp (c.2.2 35 (c.2.1 25 a.toNatClampNeg).toNatClampNeg) (FP.dconst0 : UInt64)) .g) < 0
              · rw [if_pos hc] at h ⊢
                refine mnX4_divided ?_ h
                intro r192 h
                refine mnX4_divided ?_ h
                intro r193 h
                refine mnX4_divided ?_ h
                intro r194 h
                refine mnX4_divided ?_ h
                intro r195 h
                refine mnX4_putFour ?_ h
                intro  X196 h
                exact hr _ h
              · rw [if_neg hc] at h ⊢
                refine mnX4_put ?_ h
                intro  X197 h
                exact hr _ h
          rw [if_neg hc] at h ⊢
          by_cases hc : (c.2.1 23 a.toNatClampNeg) = (6 : Int32)
          · rw [if_pos hc] at h ⊢
            refine mnX4_made ?_ h
            intro r198 h
            refine mnX4_made ?_ h
            intro r199 h
            refine mnX4_put ?_ h
            intro  X200 h
            exact hr _ h
          rw [if_neg hc] at h ⊢
          by_cases hc : (c.2.1 23 a.toNatClampNeg) = (7 : Int32)
          · rw [if_pos hc] at h ⊢
            refine mnX4_made ?_ h
            intro r201 h
            refine mnX4_made ?_ h
            intro r202 h
            refine mnX4_put ?_ h
            intro  X203 h
            exact hr _ h
          rw [if_neg hc] at h ⊢
          by_cases hc : (c.2.1 23 a.toNatClampNeg) = (8 : Int32)
          · rw [if_pos hc] at h ⊢
            refine mnX4_sizeLow ?_ h
            intro r204 h
            refine mnX4_sizeHigh ?_ h
            intro r205 h
            refine mnX4_putUp ?_ h
            intro  X206 h
            exact hr _ h
          rw [if_neg hc] at h ⊢
          by_cases hc : (c.2.1 23 a.toNatClampNeg) = (9 : Int32)
          · rw [if_pos hc] at h ⊢
            by_cases hc : 0 ≤ (Op.cmpValue (FP.dcmp (c.2.2 34 (c.2.1 24 a.toNatClampNeg).toNatClampNeg) (FP.dconst0 : UInt64)) .g)
            · rw [if_pos hc] at h ⊢
              refine mnX4_root ?_ h
              intro r207 h
              refine mnX4_down ?_ h
              intro r208 h
              refine mnX4_root ?_ h
              intro r209 h
              refine mnX4_up ?_ h
              intro r210 h
              refine mnX4_putUp ?_ h
              intro  X211 h
              exact hr _ h
            · rw [if_neg hc] at h ⊢
              refine mnX4_put ?_ h
              intro  X212 h
              exact hr _ h
          rw [if_neg hc] at h ⊢
          by_cases hc : (c.2.1 23 a.toNatClampNeg) = (10 : Int32)
          · rw [if_pos hc] at h ⊢
            refine mnX4_sizeLow ?_ h
            intro r213 h
            refine mnX4_sizeHigh ?_ h
            intro r214 h
            by_cases hc : 0 ≤ (Op.cmpValue (FP.dcmp r213 (FP.dconst0 : UInt64)) .g)
            · rw [if_pos hc] at h ⊢
              obtain ⟨hi, h⟩ := h
              refine And.intro hi ?_
              refine mnX4_down ?_ h
              intro r215 h
              obtain ⟨hi, h⟩ := h
              refine And.intro hi ?_
              refine mnX4_up ?_ h
              intro r216 h
              refine mnX4_putUp ?_ h
              intro  X217 h
              exact hr _ h
            · rw [if_neg hc] at h ⊢
              obtain ⟨hi, h⟩ := h
              refine And.intro hi ?_
              refine mnX4_down ?_ h
              intro r218 h
              obtain ⟨hi, h⟩ := h
              refine And.intro hi ?_
              refine mnX4_up ?_ h
              intro r219 h
              refine mnX4_putUp ?_ h
              intro  X220 h
              exact hr _ h
          rw [if_neg hc] at h ⊢
          by_cases hc : (c.2.1 23 a.toNatClampNeg) = (11 : Int32)
          · rw [if_pos hc] at h ⊢
            refine mnX4_made ?_ h
            intro r221 h
            refine mnX4_made ?_ h
            intro r222 h
            refine mnX4_put ?_ h
            intro  X223 h
            exact hr _ h
          rw [if_neg hc] at h ⊢
          refine mnX4_put ?_ h
          intro  X224 h
          exact hr _ h
def wX4_enclose (c : MS) (a : Int32) (b : Int32) (kr : MS → Prop) : Prop := bX4_enclose_0 c a b kr 
theorem mnX4_enclose {c : MS} {a : Int32} {b : Int32} {kr kq : MS → Prop} (hr : ∀ X, kr X → kq X) (h : wX4_enclose c a b kr) : wX4_enclose c a b kq := mbX4_enclose_0 hr  h
def tX4_enclose : Tr := fun as σ k => match as with
  | [.ref 20, .int a, .int b] => ∃ (c : MS) (u : Nat → aE) (M : aS), σ = pre20 u ++ (wM c ++ M) ∧ wX4_enclose c a b (fun X => k none (pre20 u ++ (wM X ++ M)))
  | _ => False
def ceX4_enclose : List (Nat × Nat × Tr) := (2 * 137, 1, tX4_isTwo) :: (2 * 140, 2, tX4_added) :: (2 * 179, 1, tX4_down) :: (2 * 84, 1, tX4_up) :: (2 * 175 + 1, 3 + 1, tX4_put) :: (2 * 144, 2, tX4_lessened) :: (2 * 147, 2, tX4_timed) :: (2 * 182 + 1, 5 + 1, tX4_putFour) :: (2 * 150, 2, tX4_divided) :: (2 * 167, 3, tX4_made) :: (2 * 186, 2, tX4_sizeLow) :: (2 * 189, 2, tX4_sizeHigh) :: (2 * 192 + 1, 3 + 1, tX4_putUp) :: (2 * 159, 1, tX4_root) :: []
theorem coX4_enclose (l : Launch) : CEok l yX4_enclose.cls 7 ceX4_enclose := ce_S (okX4_isTwo l) (mw 733 (by decide +kernel) rfl) (mw 734 (by decide +kernel) rfl) (mw 4 (by decide +kernel) rfl) (mw 735 (by decide +kernel) rfl) (by decide) ⟨by decide, by decide⟩ (ce_S (okX4_added l) (mw 751 (by decide +kernel) rfl) (mw 752 (by decide +kernel) rfl) (mw 4 (by decide +kernel) rfl) (mw 753 (by decide +kernel) rfl) (by decide) ⟨by decide, by decide⟩ (ce_S (okX4_down l) (mw 827 (by decide +kernel) rfl) (mw 828 (by decide +kernel) rfl) (mw 4 (by decide +kernel) rfl) (mw 829 (by decide +kernel) rfl) (by decide) ⟨by decide, by decide⟩ (ce_S (okX4_up l) (mw 830 (by decide +kernel) rfl) (mw 831 (by decide +kernel) rfl) (mw 4 (by decide +kernel) rfl) (mw 832 (by decide +kernel) rfl) (by decide) ⟨by decide, by decide⟩ (ce_V (ci := 3) (n := 3) rfl (okX4_put l) rcX4_put (mw 823 (by decide +kernel) rfl) (mw 825 (by decide +kernel) rfl) (ms 23 (by decide +kernel) rfl) (mw 4 (by decide +kernel) rfl) (mw 826 (by decide +kernel) rfl) rfl (by decide) ⟨by decide, by decide⟩ (ce_S (okX4_lessened l) (mw 757 (by decide +kernel) rfl) (mw 758 (by decide +kernel) rfl) (mw 4 (by decide +kernel) rfl) (mw 759 (by decide +kernel) rfl) (by decide) ⟨by decide, by decide⟩ (ce_S (okX4_timed l) (mw 760 (by decide +kernel) rfl) (mw 761 (by decide +kernel) rfl) (mw 4 (by decide +kernel) rfl) (mw 762 (by decide +kernel) rfl) (by decide) ⟨by decide, by decide⟩ (ce_V (ci := 3) (n := 5) rfl (okX4_putFour l) rcX4_putFour (mw 833 (by decide +kernel) rfl) (mw 835 (by decide +kernel) rfl) (ms 24 (by decide +kernel) rfl) (mw 4 (by decide +kernel) rfl) (mw 836 (by decide +kernel) rfl) rfl (by decide) ⟨by decide, by decide⟩ (ce_S (okX4_divided l) (mw 763 (by decide +kernel) rfl) (mw 764 (by decide +kernel) rfl) (mw 4 (by decide +kernel) rfl) (mw 765 (by decide +kernel) rfl) (by decide) ⟨by decide, by decide⟩ (ce_S (okX4_made l) (mw 748 (by decide +kernel) rfl) (mw 749 (by decide +kernel) rfl) (mw 4 (by decide +kernel) rfl) (mw 750 (by decide +kernel) rfl) (by decide) ⟨by decide, by decide⟩ (ce_S (okX4_sizeLow l) (mw 837 (by decide +kernel) rfl) (mw 838 (by decide +kernel) rfl) (mw 4 (by decide +kernel) rfl) (mw 839 (by decide +kernel) rfl) (by decide) ⟨by decide, by decide⟩ (ce_S (okX4_sizeHigh l) (mw 840 (by decide +kernel) rfl) (mw 841 (by decide +kernel) rfl) (mw 4 (by decide +kernel) rfl) (mw 842 (by decide +kernel) rfl) (by decide) ⟨by decide, by decide⟩ (ce_V (ci := 3) (n := 3) rfl (okX4_putUp l) rcX4_putUp (mw 843 (by decide +kernel) rfl) (mw 845 (by decide +kernel) rfl) (ms 25 (by decide +kernel) rfl) (mw 4 (by decide +kernel) rfl) (mw 846 (by decide +kernel) rfl) rfl (by decide) ⟨by decide, by decide⟩ (ce_S (okX4_root l) (mw 791 (by decide +kernel) rfl) (mw 792 (by decide +kernel) rfl) (mw 4 (by decide +kernel) rfl) (mw 793 (by decide +kernel) rfl) (by decide) ⟨by decide, by decide⟩ (ce_0))))))))))))))
abbrev cutX4_enclose : List (Nat × List Nat) := []
set_option maxRecDepth 20000 in
set_option maxHeartbeats 4000000 in
theorem lbX4_enclose_0 {G : Nat → LV → List Value → aS → Prop} {post : Option Value → aS → Prop} (hG : ∀ n b pc lv st σ, seg (0, fun _ => 0) pgX4_enclose ceX4_enclose cutX4_enclose G (fun v σ => rFit none v ∧ post v σ) n b pc lv st σ → G pc lv st σ) (c : MS) (u : Nat → aE) (M : aS) (a : Int32) (b : Int32) (hb : bX4_enclose_0 c a b (fun X => rFit none none ∧ post none (pre20 u ++ (wM X ++ M))) ) : G 0 [(0, .ref 20), (1, .int a), (2, .int b)] [] (pre20 u ++ (wM c ++ M)) := by
  unfold bX4_enclose_0 at hb
  refine hG 400 false 0 _ _ _ ?_
  obtain ⟨hi, hb⟩ := hb
  refine And.intro hi ?_
  refine And.intro (fun (h : ¬ (c.2.1 23 a.toNatClampNeg) = 0) => ?_) (fun hq => have h : (c.2.1 23 a.toNatClampNeg) = 0 := Classical.not_not.mp hq; ?_)
  · rw [if_neg h] at hb
    refine And.intro (fun (h : ¬ (c.2.1 23 a.toNatClampNeg) = (1 : Int32)) => ?_) (fun hq => have h : (c.2.1 23 a.toNatClampNeg) = (1 : Int32) := Classical.not_not.mp hq; ?_)
    · rw [if_neg h] at hb
      obtain ⟨hi, hb⟩ := hb
      refine And.intro hi ?_
      obtain ⟨hi, hb⟩ := hb
      refine And.intro hi ?_
      obtain ⟨hi, hb⟩ := hb
      refine And.intro hi ?_
      obtain ⟨hi, hb⟩ := hb
      refine And.intro hi ?_
      refine And.intro trivial (mnX4_isTwo ?_ hb)
      intro r1 _ hb
      refine And.intro (fun (h : r1 = 0) => ?_) (fun (h : ¬ r1 = 0) => ?_)
      · rw [if_pos h] at hb
        refine And.intro trivial (mnX4_isTwo ?_ hb)
        intro r2 _ hb
        refine And.intro (fun (h : r2 = 0) => ?_) (fun (h : ¬ r2 = 0) => ?_)
        · rw [if_pos h] at hb
          refine And.intro (fun (h : (c.2.1 23 a.toNatClampNeg).toInt < 2 ∨ 12 < (c.2.1 23 a.toNatClampNeg).toInt) => ?_) ?_
          · rw [if_pos h] at hb
            refine And.intro trivial (mnX4_made ?_ hb)
            intro r56 hb
            refine And.intro trivial (mnX4_made ?_ hb)
            intro r57 hb
            refine Exists.intro c (Exists.intro u (Exists.intro M ((And.intro rfl (mnX4_put ?_ hb)))))
            intro  X58 hb
            exact hb
          refine And.intro (fun (hw : (c.2.1 23 a.toNatClampNeg) = (2 : Int32)) => ?_) ?_
          · rw [if_neg (show ¬ ((c.2.1 23 a.toNatClampNeg).toInt < 2 ∨ 12 < (c.2.1 23 a.toNatClampNeg).toInt) by rw [hw]; decide), if_pos hw] at hb
            refine And.intro trivial (mnX4_added ?_ hb)
            intro r3 hb
            refine And.intro trivial (mnX4_down ?_ hb)
            intro r4 hb
            refine And.intro trivial (mnX4_added ?_ hb)
            intro r5 hb
            refine And.intro trivial (mnX4_up ?_ hb)
            intro r6 hb
            refine Exists.intro c (Exists.intro u (Exists.intro M ((And.intro rfl (mnX4_put ?_ hb)))))
            intro  X7 hb
            exact hb
          refine And.intro (fun (hw : (c.2.1 23 a.toNatClampNeg) = (3 : Int32)) => ?_) ?_
          · rw [if_neg (show ¬ ((c.2.1 23 a.toNatClampNeg).toInt < 2 ∨ 12 < (c.2.1 23 a.toNatClampNeg).toInt) by rw [hw]; decide), if_neg (show ¬ ((c.2.1 23 a.toNatClampNeg) = (2 : Int32)) by rw [hw]; decide), if_pos hw] at hb
            refine And.intro trivial (mnX4_lessened ?_ hb)
            intro r8 hb
            refine And.intro trivial (mnX4_down ?_ hb)
            intro r9 hb
            refine And.intro trivial (mnX4_lessened ?_ hb)
            intro r10 hb
            refine And.intro trivial (mnX4_up ?_ hb)
            intro r11 hb
            refine Exists.intro c (Exists.intro u (Exists.intro M ((And.intro rfl (mnX4_put ?_ hb)))))
            intro  X12 hb
            exact hb
          refine And.intro (fun (hw : (c.2.1 23 a.toNatClampNeg) = (4 : Int32)) => ?_) ?_
          · rw [if_neg (show ¬ ((c.2.1 23 a.toNatClampNeg).toInt < 2 ∨ 12 < (c.2.1 23 a.toNatClampNeg).toInt) by rw [hw]; decide), if_neg (show ¬ ((c.2.1 23 a.toNatClampNeg) = (2 : Int32)) by rw [hw]; decide), if_neg (show ¬ ((c.2.1 23 a.toNatClampNeg) = (3 : Int32)) by rw [hw]; decide), if_pos hw] at hb
            refine And.intro trivial (mnX4_timed ?_ hb)
            intro r13 hb
            refine And.intro trivial (mnX4_timed ?_ hb)
            intro r14 hb
            refine And.intro trivial (mnX4_timed ?_ hb)
            intro r15 hb
            refine And.intro trivial (mnX4_timed ?_ hb)
            intro r16 hb
            refine Exists.intro c (Exists.intro u (Exists.intro M ((And.intro rfl (mnX4_putFour ?_ hb)))))
            intro  X17 hb
            exact hb
          refine And.intro (fun (hw : (c.2.1 23 a.toNatClampNeg) = (5 : Int32)) => ?_) ?_
          · rw [if_neg (show ¬ ((c.2.1 23 a.toNatClampNeg).toInt < 2 ∨ 12 < (c.2.1 23 a.toNatClampNeg).toInt) by rw [hw]; decide), if_neg (show ¬ ((c.2.1 23 a.toNatClampNeg) = (2 : Int32)) by rw [hw]; decide), if_neg (show ¬ ((c.2.1 23 a.toNatClampNeg) = (3 : Int32)) by rw [hw]; decide), if_neg (show ¬ ((c.2.1 23 a.toNatClampNeg) = (4 : Int32)) by rw [hw]; decide), if_pos hw] at hb
            refine And.intro (fun (h : 0 < (Op.cmpValue (FP.dcmp (FP.dconst0 : UInt64) (FP.dconst0 : UInt64)) .l)) => ?_) (fun (h : ¬ 0 < (Op.cmpValue (FP.dcmp (FP.dconst0 : UInt64) (FP.dconst0 : UInt64)) .l)) => ?_)
            · rw [if_pos h] at hb
              refine And.intro trivial (mnX4_divided ?_ hb)
              intro r18 hb
              refine And.intro trivial (mnX4_divided ?_ hb)
              intro r19 hb
              refine And.intro trivial (mnX4_divided ?_ hb)
              intro r20 hb
              refine And.intro trivial (mnX4_divided ?_ hb)
              intro r21 hb
              refine Exists.intro c (Exists.intro u (Exists.intro M ((And.intro rfl (mnX4_putFour ?_ hb)))))
              intro  X22 hb
              exact hb
            · rw [if_neg h] at hb
              refine And.intro (fun (h : (Op.cmpValue (FP.dcmp (FP.dconst0 : UInt64) (FP.dconst0 : UInt64)) .g) < 0) => ?_) (fun (h : ¬ (Op.cmpValue (FP.dcmp (FP.dconst0 : UInt64) (FP.dconst0 : UInt64)) .g) < 0) => ?_)
              · rw [if_pos h] at hb
                refine And.intro trivial (mnX4_divided ?_ hb)
                intro r23 hb
                refine And.intro trivial (mnX4_divided ?_ hb)
                intro r24 hb
                refine And.intro trivial (mnX4_divided ?_ hb)
                intro r25 hb
                refine And.intro trivial (mnX4_divided ?_ hb)
                intro r26 hb
                refine Exists.intro c (Exists.intro u (Exists.intro M ((And.intro rfl (mnX4_putFour ?_ hb)))))
                intro  X27 hb
                exact hb
              · rw [if_neg h] at hb
                refine Exists.intro c (Exists.intro u (Exists.intro M ((And.intro rfl (mnX4_put ?_ hb)))))
                intro  X28 hb
                exact hb
          refine And.intro (fun (hw : (c.2.1 23 a.toNatClampNeg) = (6 : Int32)) => ?_) ?_
          · rw [if_neg (show ¬ ((c.2.1 23 a.toNatClampNeg).toInt < 2 ∨ 12 < (c.2.1 23 a.toNatClampNeg).toInt) by rw [hw]; decide), if_neg (show ¬ ((c.2.1 23 a.toNatClampNeg) = (2 : Int32)) by rw [hw]; decide), if_neg (show ¬ ((c.2.1 23 a.toNatClampNeg) = (3 : Int32)) by rw [hw]; decide), if_neg (show ¬ ((c.2.1 23 a.toNatClampNeg) = (4 : Int32)) by rw [hw]; decide), if_neg (show ¬ ((c.2.1 23 a.toNatClampNeg) = (5 : Int32)) by rw [hw]; decide), if_pos hw] at hb
            refine And.intro trivial (mnX4_made ?_ hb)
            intro r29 hb
            refine And.intro trivial (mnX4_made ?_ hb)
            intro r30 hb
            refine Exists.intro c (Exists.intro u (Exists.intro M ((And.intro rfl (mnX4_put ?_ hb)))))
            intro  X31 hb
            exact hb
          refine And.intro (fun (hw : (c.2.1 23 a.toNatClampNeg) = (7 : Int32)) => ?_) ?_
          · rw [if_neg (show ¬ ((c.2.1 23 a.toNatClampNeg).toInt < 2 ∨ 12 < (c.2.1 23 a.toNatClampNeg).toInt) by rw [hw]; decide), if_neg (show ¬ ((c.2.1 23 a.toNatClampNeg) = (2 : Int32)) by rw [hw]; decide), if_neg (show ¬ ((c.2.1 23 a.toNatClampNeg) = (3 : Int32)) by rw [hw]; decide), if_neg (show ¬ ((c.2.1 23 a.toNatClampNeg) = (4 : Int32)) by rw [hw]; decide), if_neg (show ¬ ((c.2.1 23 a.toNatClampNeg) = (5 : Int32)) by rw [hw]; decide), if_neg (show ¬ ((c.2.1 23 a.toNatClampNeg) = (6 : Int32)) by rw [hw]; decide), if_pos hw] at hb
            refine And.intro trivial (mnX4_made ?_ hb)
            intro r32 hb
            refine And.intro trivial (mnX4_made ?_ hb)
            intro r33 hb
            refine Exists.intro c (Exists.intro u (Exists.intro M ((And.intro rfl (mnX4_put ?_ hb)))))
            intro  X34 hb
            exact hb
          refine And.intro (fun (hw : (c.2.1 23 a.toNatClampNeg) = (8 : Int32)) => ?_) ?_
          · rw [if_neg (show ¬ ((c.2.1 23 a.toNatClampNeg).toInt < 2 ∨ 12 < (c.2.1 23 a.toNatClampNeg).toInt) by rw [hw]; decide), if_neg (show ¬ ((c.2.1 23 a.toNatClampNeg) = (2 : Int32)) by rw [hw]; decide), if_neg (show ¬ ((c.2.1 23 a.toNatClampNeg) = (3 : Int32)) by rw [hw]; decide), if_neg (show ¬ ((c.2.1 23 a.toNatClampNeg) = (4 : Int32)) by rw [hw]; decide), if_neg (show ¬ ((c.2.1 23 a.toNatClampNeg) = (5 : Int32)) by rw [hw]; decide), if_neg (show ¬ ((c.2.1 23 a.toNatClampNeg) = (6 : Int32)) by rw [hw]; decide), if_neg (show ¬ ((c.2.1 23 a.toNatClampNeg) = (7 : Int32)) by rw [hw]; decide), if_pos hw] at hb
            refine And.intro trivial (mnX4_sizeLow ?_ hb)
            intro r35 hb
            refine And.intro trivial (mnX4_sizeHigh ?_ hb)
            intro r36 hb
            refine Exists.intro c (Exists.intro u (Exists.intro M ((And.intro rfl (mnX4_putUp ?_ hb)))))
            intro  X37 hb
            exact hb
          refine And.intro (fun (hw : (c.2.1 23 a.toNatClampNeg) = (9 : Int32)) => ?_) ?_
          · rw [if_neg (show ¬ ((c.2.1 23 a.toNatClampNeg).toInt < 2 ∨ 12 < (c.2.1 23 a.toNatClampNeg).toInt) by rw [hw]; decide), if_neg (show ¬ ((c.2.1 23 a.toNatClampNeg) = (2 : Int32)) by rw [hw]; decide), if_neg (show ¬ ((c.2.1 23 a.toNatClampNeg) = (3 : Int32)) by rw [hw]; decide), if_neg (show ¬ ((c.2.1 23 a.toNatClampNeg) = (4 : Int32)) by rw [hw]; decide), if_neg (show ¬ ((c.2.1 23 a.toNatClampNeg) = (5 : Int32)) by rw [hw]; decide), if_neg (show ¬ ((c.2.1 23 a.toNatClampNeg) = (6 : Int32)) by rw [hw]; decide), if_neg (show ¬ ((c.2.1 23 a.toNatClampNeg) = (7 : Int32)) by rw [hw]; decide), if_neg (show ¬ ((c.2.1 23 a.toNatClampNeg) = (8 : Int32)) by rw [hw]; decide), if_pos hw] at hb
            refine And.intro (fun (h : 0 ≤ (Op.cmpValue (FP.dcmp (c.2.2 34 (c.2.1 24 a.toNatClampNeg).toNatClampNeg) (FP.dconst0 : UInt64)) .g)) => ?_) (fun (h : ¬ 0 ≤ (Op.cmpValue (FP.dcmp (c.2.2 34 (c.2.1 24 a.toNatClampNeg).toNatClampNeg) (FP.dconst0 : UInt64)) .g)) => ?_)
            · rw [if_pos h] at hb
              refine And.intro trivial (mnX4_root ?_ hb)
              intro r38 hb
              refine And.intro trivial (mnX4_down ?_ hb)
              intro r39 hb
              refine And.intro trivial (mnX4_root ?_ hb)
              intro r40 hb
              refine And.intro trivial (mnX4_up ?_ hb)
              intro r41 hb
              refine Exists.intro c (Exists.intro u (Exists.intro M ((And.intro rfl (mnX4_putUp ?_ hb)))))
              intro  X42 hb
              exact hb
            · rw [if_neg h] at hb
              refine Exists.intro c (Exists.intro u (Exists.intro M ((And.intro rfl (mnX4_put ?_ hb)))))
              intro  X43 hb
              exact hb
          refine And.intro (fun (hw : (c.2.1 23 a.toNatClampNeg) = (10 : Int32)) => ?_) ?_
          · rw [if_neg (show ¬ ((c.2.1 23 a.toNatClampNeg).toInt < 2 ∨ 12 < (c.2.1 23 a.toNatClampNeg).toInt) by rw [hw]; decide), if_neg (show ¬ ((c.2.1 23 a.toNatClampNeg) = (2 : Int32)) by rw [hw]; decide), if_neg (show ¬ ((c.2.1 23 a.toNatClampNeg) = (3 : Int32)) by rw [hw]; decide), if_neg (show ¬ ((c.2.1 23 a.toNatClampNeg) = (4 : Int32)) by rw [hw]; decide), if_neg (show ¬ ((c.2.1 23 a.toNatClampNeg) = (5 : Int32)) by rw [hw]; decide), if_neg (show ¬ ((c.2.1 23 a.toNatClampNeg) = (6 : Int32)) by rw [hw]; decide), if_neg (show ¬ ((c.2.1 23 a.toNatClampNeg) = (7 : Int32)) by rw [hw]; decide), if_neg (show ¬ ((c.2.1 23 a.toNatClampNeg) = (8 : Int32)) by rw [hw]; decide), if_neg (show ¬ ((c.2.1 23 a.toNatClampNeg) = (9 : Int32)) by rw [hw]; decide), if_pos hw] at hb
            refine And.intro trivial (mnX4_sizeLow ?_ hb)
            intro r44 hb
            refine And.intro trivial (mnX4_sizeHigh ?_ hb)
            intro r45 hb
            refine And.intro (fun (h : 0 ≤ (Op.cmpValue (FP.dcmp r44 (FP.dconst0 : UInt64)) .g)) => ?_) (fun (h : ¬ 0 ≤ (Op.cmpValue (FP.dcmp r44 (FP.dconst0 : UInt64)) .g)) => ?_)
            · rw [if_pos h] at hb
              obtain ⟨hi, hb⟩ := hb
              refine And.intro hi ?_
              refine And.intro trivial (mnX4_down ?_ hb)
              intro r46 hb
              obtain ⟨hi, hb⟩ := hb
              refine And.intro hi ?_
              refine And.intro trivial (mnX4_up ?_ hb)
              intro r47 hb
              refine Exists.intro c (Exists.intro u (Exists.intro M ((And.intro rfl (mnX4_putUp ?_ hb)))))
              intro  X48 hb
              exact hb
            · rw [if_neg h] at hb
              obtain ⟨hi, hb⟩ := hb
              refine And.intro hi ?_
              refine And.intro trivial (mnX4_down ?_ hb)
              intro r49 hb
              obtain ⟨hi, hb⟩ := hb
              refine And.intro hi ?_
              refine And.intro trivial (mnX4_up ?_ hb)
              intro r50 hb
              refine Exists.intro c (Exists.intro u (Exists.intro M ((And.intro rfl (mnX4_putUp ?_ hb)))))
              intro  X51 hb
              exact hb
          refine And.intro (fun (hw : (c.2.1 23 a.toNatClampNeg) = (11 : Int32)) => ?_) ?_
          · rw [if_neg (show ¬ ((c.2.1 23 a.toNatClampNeg).toInt < 2 ∨ 12 < (c.2.1 23 a.toNatClampNeg).toInt) by rw [hw]; decide), if_neg (show ¬ ((c.2.1 23 a.toNatClampNeg) = (2 : Int32)) by rw [hw]; decide), if_neg (show ¬ ((c.2.1 23 a.toNatClampNeg) = (3 : Int32)) by rw [hw]; decide), if_neg (show ¬ ((c.2.1 23 a.toNatClampNeg) = (4 : Int32)) by rw [hw]; decide), if_neg (show ¬ ((c.2.1 23 a.toNatClampNeg) = (5 : Int32)) by rw [hw]; decide), if_neg (show ¬ ((c.2.1 23 a.toNatClampNeg) = (6 : Int32)) by rw [hw]; decide), if_neg (show ¬ ((c.2.1 23 a.toNatClampNeg) = (7 : Int32)) by rw [hw]; decide), if_neg (show ¬ ((c.2.1 23 a.toNatClampNeg) = (8 : Int32)) by rw [hw]; decide), if_neg (show ¬ ((c.2.1 23 a.toNatClampNeg) = (9 : Int32)) by rw [hw]; decide), if_neg (show ¬ ((c.2.1 23 a.toNatClampNeg) = (10 : Int32)) by rw [hw]; decide), if_pos hw] at hb
            refine And.intro trivial (mnX4_made ?_ hb)
            intro r52 hb
            refine And.intro trivial (mnX4_made ?_ hb)
            intro r53 hb
            refine Exists.intro c (Exists.intro u (Exists.intro M ((And.intro rfl (mnX4_put ?_ hb)))))
            intro  X54 hb
            exact hb
          refine And.intro (fun (hw : (c.2.1 23 a.toNatClampNeg) = (12 : Int32)) => ?_) ?_
          · rw [if_neg (show ¬ ((c.2.1 23 a.toNatClampNeg).toInt < 2 ∨ 12 < (c.2.1 23 a.toNatClampNeg).toInt) by rw [hw]; decide), if_neg (show ¬ ((c.2.1 23 a.toNatClampNeg) = (2 : Int32)) by rw [hw]; decide), if_neg (show ¬ ((c.2.1 23 a.toNatClampNeg) = (3 : Int32)) by rw [hw]; decide), if_neg (show ¬ ((c.2.1 23 a.toNatClampNeg) = (4 : Int32)) by rw [hw]; decide), if_neg (show ¬ ((c.2.1 23 a.toNatClampNeg) = (5 : Int32)) by rw [hw]; decide), if_neg (show ¬ ((c.2.1 23 a.toNatClampNeg) = (6 : Int32)) by rw [hw]; decide), if_neg (show ¬ ((c.2.1 23 a.toNatClampNeg) = (7 : Int32)) by rw [hw]; decide), if_neg (show ¬ ((c.2.1 23 a.toNatClampNeg) = (8 : Int32)) by rw [hw]; decide), if_neg (show ¬ ((c.2.1 23 a.toNatClampNeg) = (9 : Int32)) by rw [hw]; decide), if_neg (show ¬ ((c.2.1 23 a.toNatClampNeg) = (10 : Int32)) by rw [hw]; decide), if_neg (show ¬ ((c.2.1 23 a.toNatClampNeg) = (11 : Int32)) by rw [hw]; decide)] at hb
            refine Exists.intro c (Exists.intro u (Exists.intro M ((And.intro rfl (mnX4_put ?_ hb)))))
            intro  X55 hb
            exact hb
          exact trivial
        · rw [if_neg h] at hb
          obtain ⟨hi, hb⟩ := hb
          refine And.intro hi ?_
          obtain ⟨hi, hb⟩ := hb
          refine And.intro hi ?_
          refine And.intro (fun (h : (c.2.1 23 a.toNatClampNeg).toInt < 2 ∨ 12 < (c.2.1 23 a.toNatClampNeg).toInt) => ?_) ?_
          · rw [if_pos h] at hb
            refine And.intro trivial (mnX4_made ?_ hb)
            intro r112 hb
            refine And.intro trivial (mnX4_made ?_ hb)
            intro r113 hb
            refine Exists.intro c (Exists.intro u (Exists.intro M ((And.intro rfl (mnX4_put ?_ hb)))))
            intro  X114 hb
            exact hb
          refine And.intro (fun (hw : (c.2.1 23 a.toNatClampNeg) = (2 : Int32)) => ?_) ?_
          · rw [if_neg (show ¬ ((c.2.1 23 a.toNatClampNeg).toInt < 2 ∨ 12 < (c.2.1 23 a.toNatClampNeg).toInt) by rw [hw]; decide), if_pos hw] at hb
            refine And.intro trivial (mnX4_added ?_ hb)
            intro r59 hb
            refine And.intro trivial (mnX4_down ?_ hb)
            intro r60 hb
            refine And.intro trivial (mnX4_added ?_ hb)
            intro r61 hb
            refine And.intro trivial (mnX4_up ?_ hb)
            intro r62 hb
            refine Exists.intro c (Exists.intro u (Exists.intro M ((And.intro rfl (mnX4_put ?_ hb)))))
            intro  X63 hb
            exact hb
          refine And.intro (fun (hw : (c.2.1 23 a.toNatClampNeg) = (3 : Int32)) => ?_) ?_
          · rw [if_neg (show ¬ ((c.2.1 23 a.toNatClampNeg).toInt < 2 ∨ 12 < (c.2.1 23 a.toNatClampNeg).toInt) by rw [hw]; decide), if_neg (show ¬ ((c.2.1 23 a.toNatClampNeg) = (2 : Int32)) by rw [hw]; decide), if_pos hw] at hb
            refine And.intro trivial (mnX4_lessened ?_ hb)
            intro r64 hb
            refine And.intro trivial (mnX4_down ?_ hb)
            intro r65 hb
            refine And.intro trivial (mnX4_lessened ?_ hb)
            intro r66 hb
            refine And.intro trivial (mnX4_up ?_ hb)
            intro r67 hb
            refine Exists.intro c (Exists.intro u (Exists.intro M ((And.intro rfl (mnX4_put ?_ hb)))))
            intro  X68 hb
            exact hb
          refine And.intro (fun (hw : (c.2.1 23 a.toNatClampNeg) = (4 : Int32)) => ?_) ?_
          · rw [if_neg (show ¬ ((c.2.1 23 a.toNatClampNeg).toInt < 2 ∨ 12 < (c.2.1 23 a.toNatClampNeg).toInt) by rw [hw]; decide), if_neg (show ¬ ((c.2.1 23 a.toNatClampNeg) = (2 : Int32)) by rw [hw]; decide), if_neg (show ¬ ((c.2.1 23 a.toNatClampNeg) = (3 : Int32)) by rw [hw]; decide), if_pos hw] at hb
            refine And.intro trivial (mnX4_timed ?_ hb)
            intro r69 hb
            refine And.intro trivial (mnX4_timed ?_ hb)
            intro r70 hb
            refine And.intro trivial (mnX4_timed ?_ hb)
            intro r71 hb
            refine And.intro trivial (mnX4_timed ?_ hb)
            intro r72 hb
            refine Exists.intro c (Exists.intro u (Exists.intro M ((And.intro rfl (mnX4_putFour ?_ hb)))))
            intro  X73 hb
            exact hb
          refine And.intro (fun (hw : (c.2.1 23 a.toNatClampNeg) = (5 : Int32)) => ?_) ?_
          · rw [if_neg (show ¬ ((c.2.1 23 a.toNatClampNeg).toInt < 2 ∨ 12 < (c.2.1 23 a.toNatClampNeg).toInt) by rw [hw]; decide), if_neg (show ¬ ((c.2.1 23 a.toNatClampNeg) = (2 : Int32)) by rw [hw]; decide), if_neg (show ¬ ((c.2.1 23 a.toNatClampNeg) = (3 : Int32)) by rw [hw]; decide), if_neg (show ¬ ((c.2.1 23 a.toNatClampNeg) = (4 : Int32)) by rw [hw]; decide), if_pos hw] at hb
            refine And.intro (fun (h : 0 < (Op.cmpValue (FP.dcmp (FP.dconst0 : UInt64) (FP.dconst0 : UInt64)) .l)) => ?_) (fun (h : ¬ 0 < (Op.cmpValue (FP.dcmp (FP.dconst0 : UInt64) (FP.dconst0 : UInt64)) .l)) => ?_)
            · rw [if_pos h] at hb
              refine And.intro trivial (mnX4_divided ?_ hb)
              intro r74 hb
              refine And.intro trivial (mnX4_divided ?_ hb)
              intro r75 hb
              refine And.intro trivial (mnX4_divided ?_ hb)
              intro r76 hb
              refine And.intro trivial (mnX4_divided ?_ hb)
              intro r77 hb
              refine Exists.intro c (Exists.intro u (Exists.intro M ((And.intro rfl (mnX4_putFour ?_ hb)))))
              intro  X78 hb
              exact hb
            · rw [if_neg h] at hb
              refine And.intro (fun (h : (Op.cmpValue (FP.dcmp (c.2.2 35 (c.2.1 25 a.toNatClampNeg).toNatClampNeg) (FP.dconst0 : UInt64)) .g) < 0) => ?_) (fun (h : ¬ (Op.cmpValue (FP.dcmp (c.2.2 35 (c.2.1 25 a.toNatClampNeg).toNatClampNeg) (FP.dconst0 : UInt64)) .g) < 0) => ?_)
              · rw [if_pos h] at hb
                refine And.intro trivial (mnX4_divided ?_ hb)
                intro r79 hb
                refine And.intro trivial (mnX4_divided ?_ hb)
                intro r80 hb
                refine And.intro trivial (mnX4_divided ?_ hb)
                intro r81 hb
                refine And.intro trivial (mnX4_divided ?_ hb)
                intro r82 hb
                refine Exists.intro c (Exists.intro u (Exists.intro M ((And.intro rfl (mnX4_putFour ?_ hb)))))
                intro  X83 hb
                exact hb
              · rw [if_neg h] at hb
                refine Exists.intro c (Exists.intro u (Exists.intro M ((And.intro rfl (mnX4_put ?_ hb)))))
                intro  X84 hb
                exact hb
          refine And.intro (fun (hw : (c.2.1 23 a.toNatClampNeg) = (6 : Int32)) => ?_) ?_
          · rw [if_neg (show ¬ ((c.2.1 23 a.toNatClampNeg).toInt < 2 ∨ 12 < (c.2.1 23 a.toNatClampNeg).toInt) by rw [hw]; decide), if_neg (show ¬ ((c.2.1 23 a.toNatClampNeg) = (2 : Int32)) by rw [hw]; decide), if_neg (show ¬ ((c.2.1 23 a.toNatClampNeg) = (3 : Int32)) by rw [hw]; decide), if_neg (show ¬ ((c.2.1 23 a.toNatClampNeg) = (4 : Int32)) by rw [hw]; decide), if_neg (show ¬ ((c.2.1 23 a.toNatClampNeg) = (5 : Int32)) by rw [hw]; decide), if_pos hw] at hb
            refine And.intro trivial (mnX4_made ?_ hb)
            intro r85 hb
            refine And.intro trivial (mnX4_made ?_ hb)
            intro r86 hb
            refine Exists.intro c (Exists.intro u (Exists.intro M ((And.intro rfl (mnX4_put ?_ hb)))))
            intro  X87 hb
            exact hb
          refine And.intro (fun (hw : (c.2.1 23 a.toNatClampNeg) = (7 : Int32)) => ?_) ?_
          · rw [if_neg (show ¬ ((c.2.1 23 a.toNatClampNeg).toInt < 2 ∨ 12 < (c.2.1 23 a.toNatClampNeg).toInt) by rw [hw]; decide), if_neg (show ¬ ((c.2.1 23 a.toNatClampNeg) = (2 : Int32)) by rw [hw]; decide), if_neg (show ¬ ((c.2.1 23 a.toNatClampNeg) = (3 : Int32)) by rw [hw]; decide), if_neg (show ¬ ((c.2.1 23 a.toNatClampNeg) = (4 : Int32)) by rw [hw]; decide), if_neg (show ¬ ((c.2.1 23 a.toNatClampNeg) = (5 : Int32)) by rw [hw]; decide), if_neg (show ¬ ((c.2.1 23 a.toNatClampNeg) = (6 : Int32)) by rw [hw]; decide), if_pos hw] at hb
            refine And.intro trivial (mnX4_made ?_ hb)
            intro r88 hb
            refine And.intro trivial (mnX4_made ?_ hb)
            intro r89 hb
            refine Exists.intro c (Exists.intro u (Exists.intro M ((And.intro rfl (mnX4_put ?_ hb)))))
            intro  X90 hb
            exact hb
          refine And.intro (fun (hw : (c.2.1 23 a.toNatClampNeg) = (8 : Int32)) => ?_) ?_
          · rw [if_neg (show ¬ ((c.2.1 23 a.toNatClampNeg).toInt < 2 ∨ 12 < (c.2.1 23 a.toNatClampNeg).toInt) by rw [hw]; decide), if_neg (show ¬ ((c.2.1 23 a.toNatClampNeg) = (2 : Int32)) by rw [hw]; decide), if_neg (show ¬ ((c.2.1 23 a.toNatClampNeg) = (3 : Int32)) by rw [hw]; decide), if_neg (show ¬ ((c.2.1 23 a.toNatClampNeg) = (4 : Int32)) by rw [hw]; decide), if_neg (show ¬ ((c.2.1 23 a.toNatClampNeg) = (5 : Int32)) by rw [hw]; decide), if_neg (show ¬ ((c.2.1 23 a.toNatClampNeg) = (6 : Int32)) by rw [hw]; decide), if_neg (show ¬ ((c.2.1 23 a.toNatClampNeg) = (7 : Int32)) by rw [hw]; decide), if_pos hw] at hb
            refine And.intro trivial (mnX4_sizeLow ?_ hb)
            intro r91 hb
            refine And.intro trivial (mnX4_sizeHigh ?_ hb)
            intro r92 hb
            refine Exists.intro c (Exists.intro u (Exists.intro M ((And.intro rfl (mnX4_putUp ?_ hb)))))
            intro  X93 hb
            exact hb
          refine And.intro (fun (hw : (c.2.1 23 a.toNatClampNeg) = (9 : Int32)) => ?_) ?_
          · rw [if_neg (show ¬ ((c.2.1 23 a.toNatClampNeg).toInt < 2 ∨ 12 < (c.2.1 23 a.toNatClampNeg).toInt) by rw [hw]; decide), if_neg (show ¬ ((c.2.1 23 a.toNatClampNeg) = (2 : Int32)) by rw [hw]; decide), if_neg (show ¬ ((c.2.1 23 a.toNatClampNeg) = (3 : Int32)) by rw [hw]; decide), if_neg (show ¬ ((c.2.1 23 a.toNatClampNeg) = (4 : Int32)) by rw [hw]; decide), if_neg (show ¬ ((c.2.1 23 a.toNatClampNeg) = (5 : Int32)) by rw [hw]; decide), if_neg (show ¬ ((c.2.1 23 a.toNatClampNeg) = (6 : Int32)) by rw [hw]; decide), if_neg (show ¬ ((c.2.1 23 a.toNatClampNeg) = (7 : Int32)) by rw [hw]; decide), if_neg (show ¬ ((c.2.1 23 a.toNatClampNeg) = (8 : Int32)) by rw [hw]; decide), if_pos hw] at hb
            refine And.intro (fun (h : 0 ≤ (Op.cmpValue (FP.dcmp (c.2.2 34 (c.2.1 24 a.toNatClampNeg).toNatClampNeg) (FP.dconst0 : UInt64)) .g)) => ?_) (fun (h : ¬ 0 ≤ (Op.cmpValue (FP.dcmp (c.2.2 34 (c.2.1 24 a.toNatClampNeg).toNatClampNeg) (FP.dconst0 : UInt64)) .g)) => ?_)
            · rw [if_pos h] at hb
              refine And.intro trivial (mnX4_root ?_ hb)
              intro r94 hb
              refine And.intro trivial (mnX4_down ?_ hb)
              intro r95 hb
              refine And.intro trivial (mnX4_root ?_ hb)
              intro r96 hb
              refine And.intro trivial (mnX4_up ?_ hb)
              intro r97 hb
              refine Exists.intro c (Exists.intro u (Exists.intro M ((And.intro rfl (mnX4_putUp ?_ hb)))))
              intro  X98 hb
              exact hb
            · rw [if_neg h] at hb
              refine Exists.intro c (Exists.intro u (Exists.intro M ((And.intro rfl (mnX4_put ?_ hb)))))
              intro  X99 hb
              exact hb
          refine And.intro (fun (hw : (c.2.1 23 a.toNatClampNeg) = (10 : Int32)) => ?_) ?_
          · rw [if_neg (show ¬ ((c.2.1 23 a.toNatClampNeg).toInt < 2 ∨ 12 < (c.2.1 23 a.toNatClampNeg).toInt) by rw [hw]; decide), if_neg (show ¬ ((c.2.1 23 a.toNatClampNeg) = (2 : Int32)) by rw [hw]; decide), if_neg (show ¬ ((c.2.1 23 a.toNatClampNeg) = (3 : Int32)) by rw [hw]; decide), if_neg (show ¬ ((c.2.1 23 a.toNatClampNeg) = (4 : Int32)) by rw [hw]; decide), if_neg (show ¬ ((c.2.1 23 a.toNatClampNeg) = (5 : Int32)) by rw [hw]; decide), if_neg (show ¬ ((c.2.1 23 a.toNatClampNeg) = (6 : Int32)) by rw [hw]; decide), if_neg (show ¬ ((c.2.1 23 a.toNatClampNeg) = (7 : Int32)) by rw [hw]; decide), if_neg (show ¬ ((c.2.1 23 a.toNatClampNeg) = (8 : Int32)) by rw [hw]; decide), if_neg (show ¬ ((c.2.1 23 a.toNatClampNeg) = (9 : Int32)) by rw [hw]; decide), if_pos hw] at hb
            refine And.intro trivial (mnX4_sizeLow ?_ hb)
            intro r100 hb
            refine And.intro trivial (mnX4_sizeHigh ?_ hb)
            intro r101 hb
            refine And.intro (fun (h : 0 ≤ (Op.cmpValue (FP.dcmp r100 (FP.dconst0 : UInt64)) .g)) => ?_) (fun (h : ¬ 0 ≤ (Op.cmpValue (FP.dcmp r100 (FP.dconst0 : UInt64)) .g)) => ?_)
            · rw [if_pos h] at hb
              obtain ⟨hi, hb⟩ := hb
              refine And.intro hi ?_
              refine And.intro trivial (mnX4_down ?_ hb)
              intro r102 hb
              obtain ⟨hi, hb⟩ := hb
              refine And.intro hi ?_
              refine And.intro trivial (mnX4_up ?_ hb)
              intro r103 hb
              refine Exists.intro c (Exists.intro u (Exists.intro M ((And.intro rfl (mnX4_putUp ?_ hb)))))
              intro  X104 hb
              exact hb
            · rw [if_neg h] at hb
              obtain ⟨hi, hb⟩ := hb
              refine And.intro hi ?_
              refine And.intro trivial (mnX4_down ?_ hb)
              intro r105 hb
              obtain ⟨hi, hb⟩ := hb
              refine And.intro hi ?_
              refine And.intro trivial (mnX4_up ?_ hb)
              intro r106 hb
              refine Exists.intro c (Exists.intro u (Exists.intro M ((And.intro rfl (mnX4_putUp ?_ hb)))))
              intro  X107 hb
              exact hb
          refine And.intro (fun (hw : (c.2.1 23 a.toNatClampNeg) = (11 : Int32)) => ?_) ?_
          · rw [if_neg (show ¬ ((c.2.1 23 a.toNatClampNeg).toInt < 2 ∨ 12 < (c.2.1 23 a.toNatClampNeg).toInt) by rw [hw]; decide), if_neg (show ¬ ((c.2.1 23 a.toNatClampNeg) = (2 : Int32)) by rw [hw]; decide), if_neg (show ¬ ((c.2.1 23 a.toNatClampNeg) = (3 : Int32)) by rw [hw]; decide), if_neg (show ¬ ((c.2.1 23 a.toNatClampNeg) = (4 : Int32)) by rw [hw]; decide), if_neg (show ¬ ((c.2.1 23 a.toNatClampNeg) = (5 : Int32)) by rw [hw]; decide), if_neg (show ¬ ((c.2.1 23 a.toNatClampNeg) = (6 : Int32)) by rw [hw]; decide), if_neg (show ¬ ((c.2.1 23 a.toNatClampNeg) = (7 : Int32)) by rw [hw]; decide), if_neg (show ¬ ((c.2.1 23 a.toNatClampNeg) = (8 : Int32)) by rw [hw]; decide), if_neg (show ¬ ((c.2.1 23 a.toNatClampNeg) = (9 : Int32)) by rw [hw]; decide), if_neg (show ¬ ((c.2.1 23 a.toNatClampNeg) = (10 : Int32)) by rw [hw]; decide), if_pos hw] at hb
            refine And.intro trivial (mnX4_made ?_ hb)
            intro r108 hb
            refine And.intro trivial (mnX4_made ?_ hb)
            intro r109 hb
            refine Exists.intro c (Exists.intro u (Exists.intro M ((And.intro rfl (mnX4_put ?_ hb)))))
            intro  X110 hb
            exact hb
          refine And.intro (fun (hw : (c.2.1 23 a.toNatClampNeg) = (12 : Int32)) => ?_) ?_
          · rw [if_neg (show ¬ ((c.2.1 23 a.toNatClampNeg).toInt < 2 ∨ 12 < (c.2.1 23 a.toNatClampNeg).toInt) by rw [hw]; decide), if_neg (show ¬ ((c.2.1 23 a.toNatClampNeg) = (2 : Int32)) by rw [hw]; decide), if_neg (show ¬ ((c.2.1 23 a.toNatClampNeg) = (3 : Int32)) by rw [hw]; decide), if_neg (show ¬ ((c.2.1 23 a.toNatClampNeg) = (4 : Int32)) by rw [hw]; decide), if_neg (show ¬ ((c.2.1 23 a.toNatClampNeg) = (5 : Int32)) by rw [hw]; decide), if_neg (show ¬ ((c.2.1 23 a.toNatClampNeg) = (6 : Int32)) by rw [hw]; decide), if_neg (show ¬ ((c.2.1 23 a.toNatClampNeg) = (7 : Int32)) by rw [hw]; decide), if_neg (show ¬ ((c.2.1 23 a.toNatClampNeg) = (8 : Int32)) by rw [hw]; decide), if_neg (show ¬ ((c.2.1 23 a.toNatClampNeg) = (9 : Int32)) by rw [hw]; decide), if_neg (show ¬ ((c.2.1 23 a.toNatClampNeg) = (10 : Int32)) by rw [hw]; decide), if_neg (show ¬ ((c.2.1 23 a.toNatClampNeg) = (11 : Int32)) by rw [hw]; decide)] at hb
            refine Exists.intro c (Exists.intro u (Exists.intro M ((And.intro rfl (mnX4_put ?_ hb)))))
            intro  X111 hb
            exact hb
          exact trivial
      · rw [if_neg h] at hb
        obtain ⟨hi, hb⟩ := hb
        refine And.intro hi ?_
        obtain ⟨hi, hb⟩ := hb
        refine And.intro hi ?_
        refine And.intro trivial (mnX4_isTwo ?_ hb)
        intro r115 _ hb
        refine And.intro (fun (h : r115 = 0) => ?_) (fun (h : ¬ r115 = 0) => ?_)
        · rw [if_pos h] at hb
          refine And.intro (fun (h : (c.2.1 23 a.toNatClampNeg).toInt < 2 ∨ 12 < (c.2.1 23 a.toNatClampNeg).toInt) => ?_) ?_
          · rw [if_pos h] at hb
            refine And.intro trivial (mnX4_made ?_ hb)
            intro r169 hb
            refine And.intro trivial (mnX4_made ?_ hb)
            intro r170 hb
            refine Exists.intro c (Exists.intro u (Exists.intro M ((And.intro rfl (mnX4_put ?_ hb)))))
            intro  X171 hb
            exact hb
          refine And.intro (fun (hw : (c.2.1 23 a.toNatClampNeg) = (2 : Int32)) => ?_) ?_
          · rw [if_neg (show ¬ ((c.2.1 23 a.toNatClampNeg).toInt < 2 ∨ 12 < (c.2.1 23 a.toNatClampNeg).toInt) by rw [hw]; decide), if_pos hw] at hb
            refine And.intro trivial (mnX4_added ?_ hb)
            intro r116 hb
            refine And.intro trivial (mnX4_down ?_ hb)
            intro r117 hb
            refine And.intro trivial (mnX4_added ?_ hb)
            intro r118 hb
            refine And.intro trivial (mnX4_up ?_ hb)
            intro r119 hb
            refine Exists.intro c (Exists.intro u (Exists.intro M ((And.intro rfl (mnX4_put ?_ hb)))))
            intro  X120 hb
            exact hb
          refine And.intro (fun (hw : (c.2.1 23 a.toNatClampNeg) = (3 : Int32)) => ?_) ?_
          · rw [if_neg (show ¬ ((c.2.1 23 a.toNatClampNeg).toInt < 2 ∨ 12 < (c.2.1 23 a.toNatClampNeg).toInt) by rw [hw]; decide), if_neg (show ¬ ((c.2.1 23 a.toNatClampNeg) = (2 : Int32)) by rw [hw]; decide), if_pos hw] at hb
            refine And.intro trivial (mnX4_lessened ?_ hb)
            intro r121 hb
            refine And.intro trivial (mnX4_down ?_ hb)
            intro r122 hb
            refine And.intro trivial (mnX4_lessened ?_ hb)
            intro r123 hb
            refine And.intro trivial (mnX4_up ?_ hb)
            intro r124 hb
            refine Exists.intro c (Exists.intro u (Exists.intro M ((And.intro rfl (mnX4_put ?_ hb)))))
            intro  X125 hb
            exact hb
          refine And.intro (fun (hw : (c.2.1 23 a.toNatClampNeg) = (4 : Int32)) => ?_) ?_
          · rw [if_neg (show ¬ ((c.2.1 23 a.toNatClampNeg).toInt < 2 ∨ 12 < (c.2.1 23 a.toNatClampNeg).toInt) by rw [hw]; decide), if_neg (show ¬ ((c.2.1 23 a.toNatClampNeg) = (2 : Int32)) by rw [hw]; decide), if_neg (show ¬ ((c.2.1 23 a.toNatClampNeg) = (3 : Int32)) by rw [hw]; decide), if_pos hw] at hb
            refine And.intro trivial (mnX4_timed ?_ hb)
            intro r126 hb
            refine And.intro trivial (mnX4_timed ?_ hb)
            intro r127 hb
            refine And.intro trivial (mnX4_timed ?_ hb)
            intro r128 hb
            refine And.intro trivial (mnX4_timed ?_ hb)
            intro r129 hb
            refine Exists.intro c (Exists.intro u (Exists.intro M ((And.intro rfl (mnX4_putFour ?_ hb)))))
            intro  X130 hb
            exact hb
          refine And.intro (fun (hw : (c.2.1 23 a.toNatClampNeg) = (5 : Int32)) => ?_) ?_
          · rw [if_neg (show ¬ ((c.2.1 23 a.toNatClampNeg).toInt < 2 ∨ 12 < (c.2.1 23 a.toNatClampNeg).toInt) by rw [hw]; decide), if_neg (show ¬ ((c.2.1 23 a.toNatClampNeg) = (2 : Int32)) by rw [hw]; decide), if_neg (show ¬ ((c.2.1 23 a.toNatClampNeg) = (3 : Int32)) by rw [hw]; decide), if_neg (show ¬ ((c.2.1 23 a.toNatClampNeg) = (4 : Int32)) by rw [hw]; decide), if_pos hw] at hb
            refine And.intro (fun (h : 0 < (Op.cmpValue (FP.dcmp (c.2.2 34 (c.2.1 25 a.toNatClampNeg).toNatClampNeg) (FP.dconst0 : UInt64)) .l)) => ?_) (fun (h : ¬ 0 < (Op.cmpValue (FP.dcmp (c.2.2 34 (c.2.1 25 a.toNatClampNeg).toNatClampNeg) (FP.dconst0 : UInt64)) .l)) => ?_)
            · rw [if_pos h] at hb
              refine And.intro trivial (mnX4_divided ?_ hb)
              intro r131 hb
              refine And.intro trivial (mnX4_divided ?_ hb)
              intro r132 hb
              refine And.intro trivial (mnX4_divided ?_ hb)
              intro r133 hb
              refine And.intro trivial (mnX4_divided ?_ hb)
              intro r134 hb
              refine Exists.intro c (Exists.intro u (Exists.intro M ((And.intro rfl (mnX4_putFour ?_ hb)))))
              intro  X135 hb
              exact hb
            · rw [if_neg h] at hb
              refine And.intro (fun (h : (Op.cmpValue (FP.dcmp (FP.dconst0 : UInt64) (FP.dconst0 : UInt64)) .g) < 0) => ?_) (fun (h : ¬ (Op.cmpValue (FP.dcmp (FP.dconst0 : UInt64) (FP.dconst0 : UInt64)) .g) < 0) => ?_)
              · rw [if_pos h] at hb
                refine And.intro trivial (mnX4_divided ?_ hb)
                intro r136 hb
                refine And.intro trivial (mnX4_divided ?_ hb)
                intro r137 hb
                refine And.intro trivial (mnX4_divided ?_ hb)
                intro r138 hb
                refine And.intro trivial (mnX4_divided ?_ hb)
                intro r139 hb
                refine Exists.intro c (Exists.intro u (Exists.intro M ((And.intro rfl (mnX4_putFour ?_ hb)))))
                intro  X140 hb
                exact hb
              · rw [if_neg h] at hb
                refine Exists.intro c (Exists.intro u (Exists.intro M ((And.intro rfl (mnX4_put ?_ hb)))))
                intro  X141 hb
                exact hb
          refine And.intro (fun (hw : (c.2.1 23 a.toNatClampNeg) = (6 : Int32)) => ?_) ?_
          · rw [if_neg (show ¬ ((c.2.1 23 a.toNatClampNeg).toInt < 2 ∨ 12 < (c.2.1 23 a.toNatClampNeg).toInt) by rw [hw]; decide), if_neg (show ¬ ((c.2.1 23 a.toNatClampNeg) = (2 : Int32)) by rw [hw]; decide), if_neg (show ¬ ((c.2.1 23 a.toNatClampNeg) = (3 : Int32)) by rw [hw]; decide), if_neg (show ¬ ((c.2.1 23 a.toNatClampNeg) = (4 : Int32)) by rw [hw]; decide), if_neg (show ¬ ((c.2.1 23 a.toNatClampNeg) = (5 : Int32)) by rw [hw]; decide), if_pos hw] at hb
            refine And.intro trivial (mnX4_made ?_ hb)
            intro r142 hb
            refine And.intro trivial (mnX4_made ?_ hb)
            intro r143 hb
            refine Exists.intro c (Exists.intro u (Exists.intro M ((And.intro rfl (mnX4_put ?_ hb)))))
            intro  X144 hb
            exact hb
          refine And.intro (fun (hw : (c.2.1 23 a.toNatClampNeg) = (7 : Int32)) => ?_) ?_
          · rw [if_neg (show ¬ ((c.2.1 23 a.toNatClampNeg).toInt < 2 ∨ 12 < (c.2.1 23 a.toNatClampNeg).toInt) by rw [hw]; decide), if_neg (show ¬ ((c.2.1 23 a.toNatClampNeg) = (2 : Int32)) by rw [hw]; decide), if_neg (show ¬ ((c.2.1 23 a.toNatClampNeg) = (3 : Int32)) by rw [hw]; decide), if_neg (show ¬ ((c.2.1 23 a.toNatClampNeg) = (4 : Int32)) by rw [hw]; decide), if_neg (show ¬ ((c.2.1 23 a.toNatClampNeg) = (5 : Int32)) by rw [hw]; decide), if_neg (show ¬ ((c.2.1 23 a.toNatClampNeg) = (6 : Int32)) by rw [hw]; decide), if_pos hw] at hb
            refine And.intro trivial (mnX4_made ?_ hb)
            intro r145 hb
            refine And.intro trivial (mnX4_made ?_ hb)
            intro r146 hb
            refine Exists.intro c (Exists.intro u (Exists.intro M ((And.intro rfl (mnX4_put ?_ hb)))))
            intro  X147 hb
            exact hb
          refine And.intro (fun (hw : (c.2.1 23 a.toNatClampNeg) = (8 : Int32)) => ?_) ?_
          · rw [if_neg (show ¬ ((c.2.1 23 a.toNatClampNeg).toInt < 2 ∨ 12 < (c.2.1 23 a.toNatClampNeg).toInt) by rw [hw]; decide), if_neg (show ¬ ((c.2.1 23 a.toNatClampNeg) = (2 : Int32)) by rw [hw]; decide), if_neg (show ¬ ((c.2.1 23 a.toNatClampNeg) = (3 : Int32)) by rw [hw]; decide), if_neg (show ¬ ((c.2.1 23 a.toNatClampNeg) = (4 : Int32)) by rw [hw]; decide), if_neg (show ¬ ((c.2.1 23 a.toNatClampNeg) = (5 : Int32)) by rw [hw]; decide), if_neg (show ¬ ((c.2.1 23 a.toNatClampNeg) = (6 : Int32)) by rw [hw]; decide), if_neg (show ¬ ((c.2.1 23 a.toNatClampNeg) = (7 : Int32)) by rw [hw]; decide), if_pos hw] at hb
            refine And.intro trivial (mnX4_sizeLow ?_ hb)
            intro r148 hb
            refine And.intro trivial (mnX4_sizeHigh ?_ hb)
            intro r149 hb
            refine Exists.intro c (Exists.intro u (Exists.intro M ((And.intro rfl (mnX4_putUp ?_ hb)))))
            intro  X150 hb
            exact hb
          refine And.intro (fun (hw : (c.2.1 23 a.toNatClampNeg) = (9 : Int32)) => ?_) ?_
          · rw [if_neg (show ¬ ((c.2.1 23 a.toNatClampNeg).toInt < 2 ∨ 12 < (c.2.1 23 a.toNatClampNeg).toInt) by rw [hw]; decide), if_neg (show ¬ ((c.2.1 23 a.toNatClampNeg) = (2 : Int32)) by rw [hw]; decide), if_neg (show ¬ ((c.2.1 23 a.toNatClampNeg) = (3 : Int32)) by rw [hw]; decide), if_neg (show ¬ ((c.2.1 23 a.toNatClampNeg) = (4 : Int32)) by rw [hw]; decide), if_neg (show ¬ ((c.2.1 23 a.toNatClampNeg) = (5 : Int32)) by rw [hw]; decide), if_neg (show ¬ ((c.2.1 23 a.toNatClampNeg) = (6 : Int32)) by rw [hw]; decide), if_neg (show ¬ ((c.2.1 23 a.toNatClampNeg) = (7 : Int32)) by rw [hw]; decide), if_neg (show ¬ ((c.2.1 23 a.toNatClampNeg) = (8 : Int32)) by rw [hw]; decide), if_pos hw] at hb
            refine And.intro (fun (h : 0 ≤ (Op.cmpValue (FP.dcmp (c.2.2 34 (c.2.1 24 a.toNatClampNeg).toNatClampNeg) (FP.dconst0 : UInt64)) .g)) => ?_) (fun (h : ¬ 0 ≤ (Op.cmpValue (FP.dcmp (c.2.2 34 (c.2.1 24 a.toNatClampNeg).toNatClampNeg) (FP.dconst0 : UInt64)) .g)) => ?_)
            · rw [if_pos h] at hb
              refine And.intro trivial (mnX4_root ?_ hb)
              intro r151 hb
              refine And.intro trivial (mnX4_down ?_ hb)
              intro r152 hb
              refine And.intro trivial (mnX4_root ?_ hb)
              intro r153 hb
              refine And.intro trivial (mnX4_up ?_ hb)
              intro r154 hb
              refine Exists.intro c (Exists.intro u (Exists.intro M ((And.intro rfl (mnX4_putUp ?_ hb)))))
              intro  X155 hb
              exact hb
            · rw [if_neg h] at hb
              refine Exists.intro c (Exists.intro u (Exists.intro M ((And.intro rfl (mnX4_put ?_ hb)))))
              intro  X156 hb
              exact hb
          refine And.intro (fun (hw : (c.2.1 23 a.toNatClampNeg) = (10 : Int32)) => ?_) ?_
          · rw [if_neg (show ¬ ((c.2.1 23 a.toNatClampNeg).toInt < 2 ∨ 12 < (c.2.1 23 a.toNatClampNeg).toInt) by rw [hw]; decide), if_neg (show ¬ ((c.2.1 23 a.toNatClampNeg) = (2 : Int32)) by rw [hw]; decide), if_neg (show ¬ ((c.2.1 23 a.toNatClampNeg) = (3 : Int32)) by rw [hw]; decide), if_neg (show ¬ ((c.2.1 23 a.toNatClampNeg) = (4 : Int32)) by rw [hw]; decide), if_neg (show ¬ ((c.2.1 23 a.toNatClampNeg) = (5 : Int32)) by rw [hw]; decide), if_neg (show ¬ ((c.2.1 23 a.toNatClampNeg) = (6 : Int32)) by rw [hw]; decide), if_neg (show ¬ ((c.2.1 23 a.toNatClampNeg) = (7 : Int32)) by rw [hw]; decide), if_neg (show ¬ ((c.2.1 23 a.toNatClampNeg) = (8 : Int32)) by rw [hw]; decide), if_neg (show ¬ ((c.2.1 23 a.toNatClampNeg) = (9 : Int32)) by rw [hw]; decide), if_pos hw] at hb
            refine And.intro trivial (mnX4_sizeLow ?_ hb)
            intro r157 hb
            refine And.intro trivial (mnX4_sizeHigh ?_ hb)
            intro r158 hb
            refine And.intro (fun (h : 0 ≤ (Op.cmpValue (FP.dcmp r157 (FP.dconst0 : UInt64)) .g)) => ?_) (fun (h : ¬ 0 ≤ (Op.cmpValue (FP.dcmp r157 (FP.dconst0 : UInt64)) .g)) => ?_)
            · rw [if_pos h] at hb
              obtain ⟨hi, hb⟩ := hb
              refine And.intro hi ?_
              refine And.intro trivial (mnX4_down ?_ hb)
              intro r159 hb
              obtain ⟨hi, hb⟩ := hb
              refine And.intro hi ?_
              refine And.intro trivial (mnX4_up ?_ hb)
              intro r160 hb
              refine Exists.intro c (Exists.intro u (Exists.intro M ((And.intro rfl (mnX4_putUp ?_ hb)))))
              intro  X161 hb
              exact hb
            · rw [if_neg h] at hb
              obtain ⟨hi, hb⟩ := hb
              refine And.intro hi ?_
              refine And.intro trivial (mnX4_down ?_ hb)
              intro r162 hb
              obtain ⟨hi, hb⟩ := hb
              refine And.intro hi ?_
              refine And.intro trivial (mnX4_up ?_ hb)
              intro r163 hb
              refine Exists.intro c (Exists.intro u (Exists.intro M ((And.intro rfl (mnX4_putUp ?_ hb)))))
              intro  X164 hb
              exact hb
          refine And.intro (fun (hw : (c.2.1 23 a.toNatClampNeg) = (11 : Int32)) => ?_) ?_
          · rw [if_neg (show ¬ ((c.2.1 23 a.toNatClampNeg).toInt < 2 ∨ 12 < (c.2.1 23 a.toNatClampNeg).toInt) by rw [hw]; decide), if_neg (show ¬ ((c.2.1 23 a.toNatClampNeg) = (2 : Int32)) by rw [hw]; decide), if_neg (show ¬ ((c.2.1 23 a.toNatClampNeg) = (3 : Int32)) by rw [hw]; decide), if_neg (show ¬ ((c.2.1 23 a.toNatClampNeg) = (4 : Int32)) by rw [hw]; decide), if_neg (show ¬ ((c.2.1 23 a.toNatClampNeg) = (5 : Int32)) by rw [hw]; decide), if_neg (show ¬ ((c.2.1 23 a.toNatClampNeg) = (6 : Int32)) by rw [hw]; decide), if_neg (show ¬ ((c.2.1 23 a.toNatClampNeg) = (7 : Int32)) by rw [hw]; decide), if_neg (show ¬ ((c.2.1 23 a.toNatClampNeg) = (8 : Int32)) by rw [hw]; decide), if_neg (show ¬ ((c.2.1 23 a.toNatClampNeg) = (9 : Int32)) by rw [hw]; decide), if_neg (show ¬ ((c.2.1 23 a.toNatClampNeg) = (10 : Int32)) by rw [hw]; decide), if_pos hw] at hb
            refine And.intro trivial (mnX4_made ?_ hb)
            intro r165 hb
            refine And.intro trivial (mnX4_made ?_ hb)
            intro r166 hb
            refine Exists.intro c (Exists.intro u (Exists.intro M ((And.intro rfl (mnX4_put ?_ hb)))))
            intro  X167 hb
            exact hb
          refine And.intro (fun (hw : (c.2.1 23 a.toNatClampNeg) = (12 : Int32)) => ?_) ?_
          · rw [if_neg (show ¬ ((c.2.1 23 a.toNatClampNeg).toInt < 2 ∨ 12 < (c.2.1 23 a.toNatClampNeg).toInt) by rw [hw]; decide), if_neg (show ¬ ((c.2.1 23 a.toNatClampNeg) = (2 : Int32)) by rw [hw]; decide), if_neg (show ¬ ((c.2.1 23 a.toNatClampNeg) = (3 : Int32)) by rw [hw]; decide), if_neg (show ¬ ((c.2.1 23 a.toNatClampNeg) = (4 : Int32)) by rw [hw]; decide), if_neg (show ¬ ((c.2.1 23 a.toNatClampNeg) = (5 : Int32)) by rw [hw]; decide), if_neg (show ¬ ((c.2.1 23 a.toNatClampNeg) = (6 : Int32)) by rw [hw]; decide), if_neg (show ¬ ((c.2.1 23 a.toNatClampNeg) = (7 : Int32)) by rw [hw]; decide), if_neg (show ¬ ((c.2.1 23 a.toNatClampNeg) = (8 : Int32)) by rw [hw]; decide), if_neg (show ¬ ((c.2.1 23 a.toNatClampNeg) = (9 : Int32)) by rw [hw]; decide), if_neg (show ¬ ((c.2.1 23 a.toNatClampNeg) = (10 : Int32)) by rw [hw]; decide), if_neg (show ¬ ((c.2.1 23 a.toNatClampNeg) = (11 : Int32)) by rw [hw]; decide)] at hb
            refine Exists.intro c (Exists.intro u (Exists.intro M ((And.intro rfl (mnX4_put ?_ hb)))))
            intro  X168 hb
            exact hb
          exact trivial
        · rw [if_neg h] at hb
          obtain ⟨hi, hb⟩ := hb
          refine And.intro hi ?_
          obtain ⟨hi, hb⟩ := hb
          refine And.intro hi ?_
          refine And.intro (fun (h : (c.2.1 23 a.toNatClampNeg).toInt < 2 ∨ 12 < (c.2.1 23 a.toNatClampNeg).toInt) => ?_) ?_
          · rw [if_pos h] at hb
            refine And.intro trivial (mnX4_made ?_ hb)
            intro r225 hb
            refine And.intro trivial (mnX4_made ?_ hb)
            intro r226 hb
            refine Exists.intro c (Exists.intro u (Exists.intro M ((And.intro rfl (mnX4_put ?_ hb)))))
            intro  X227 hb
            exact hb
          refine And.intro (fun (hw : (c.2.1 23 a.toNatClampNeg) = (2 : Int32)) => ?_) ?_
          · rw [if_neg (show ¬ ((c.2.1 23 a.toNatClampNeg).toInt < 2 ∨ 12 < (c.2.1 23 a.toNatClampNeg).toInt) by rw [hw]; decide), if_pos hw] at hb
            refine And.intro trivial (mnX4_added ?_ hb)
            intro r172 hb
            refine And.intro trivial (mnX4_down ?_ hb)
            intro r173 hb
            refine And.intro trivial (mnX4_added ?_ hb)
            intro r174 hb
            refine And.intro trivial (mnX4_up ?_ hb)
            intro r175 hb
            refine Exists.intro c (Exists.intro u (Exists.intro M ((And.intro rfl (mnX4_put ?_ hb)))))
            intro  X176 hb
            exact hb
          refine And.intro (fun (hw : (c.2.1 23 a.toNatClampNeg) = (3 : Int32)) => ?_) ?_
          · rw [if_neg (show ¬ ((c.2.1 23 a.toNatClampNeg).toInt < 2 ∨ 12 < (c.2.1 23 a.toNatClampNeg).toInt) by rw [hw]; decide), if_neg (show ¬ ((c.2.1 23 a.toNatClampNeg) = (2 : Int32)) by rw [hw]; decide), if_pos hw] at hb
            refine And.intro trivial (mnX4_lessened ?_ hb)
            intro r177 hb
            refine And.intro trivial (mnX4_down ?_ hb)
            intro r178 hb
            refine And.intro trivial (mnX4_lessened ?_ hb)
            intro r179 hb
            refine And.intro trivial (mnX4_up ?_ hb)
            intro r180 hb
            refine Exists.intro c (Exists.intro u (Exists.intro M ((And.intro rfl (mnX4_put ?_ hb)))))
            intro  X181 hb
            exact hb
          refine And.intro (fun (hw : (c.2.1 23 a.toNatClampNeg) = (4 : Int32)) => ?_) ?_
          · rw [if_neg (show ¬ ((c.2.1 23 a.toNatClampNeg).toInt < 2 ∨ 12 < (c.2.1 23 a.toNatClampNeg).toInt) by rw [hw]; decide), if_neg (show ¬ ((c.2.1 23 a.toNatClampNeg) = (2 : Int32)) by rw [hw]; decide), if_neg (show ¬ ((c.2.1 23 a.toNatClampNeg) = (3 : Int32)) by rw [hw]; decide), if_pos hw] at hb
            refine And.intro trivial (mnX4_timed ?_ hb)
            intro r182 hb
            refine And.intro trivial (mnX4_timed ?_ hb)
            intro r183 hb
            refine And.intro trivial (mnX4_timed ?_ hb)
            intro r184 hb
            refine And.intro trivial (mnX4_timed ?_ hb)
            intro r185 hb
            refine Exists.intro c (Exists.intro u (Exists.intro M ((And.intro rfl (mnX4_putFour ?_ hb)))))
            intro  X186 hb
            exact hb
          refine And.intro (fun (hw : (c.2.1 23 a.toNatClampNeg) = (5 : Int32)) => ?_) ?_
          · rw [if_neg (show ¬ ((c.2.1 23 a.toNatClampNeg).toInt < 2 ∨ 12 < (c.2.1 23 a.toNatClampNeg).toInt) by rw [hw]; decide), if_neg (show ¬ ((c.2.1 23 a.toNatClampNeg) = (2 : Int32)) by rw [hw]; decide), if_neg (show ¬ ((c.2.1 23 a.toNatClampNeg) = (3 : Int32)) by rw [hw]; decide), if_neg (show ¬ ((c.2.1 23 a.toNatClampNeg) = (4 : Int32)) by rw [hw]; decide), if_pos hw] at hb
            refine And.intro (fun (h : 0 < (Op.cmpValue (FP.dcmp (c.2.2 34 (c.2.1 25 a.toNatClampNeg).toNatClampNeg) (FP.dconst0 : UInt64)) .l)) => ?_) (fun (h : ¬ 0 < (Op.cmpValue (FP.dcmp (c.2.2 34 (c.2.1 25 a.toNatClampNeg).toNatClampNeg) (FP.dconst0 : UInt64)) .l)) => ?_)
            · rw [if_pos h] at hb
              refine And.intro trivial (mnX4_divided ?_ hb)
              intro r187 hb
              refine And.intro trivial (mnX4_divided ?_ hb)
              intro r188 hb
              refine And.intro trivial (mnX4_divided ?_ hb)
              intro r189 hb
              refine And.intro trivial (mnX4_divided ?_ hb)
              intro r190 hb
              refine Exists.intro c (Exists.intro u (Exists.intro M ((And.intro rfl (mnX4_putFour ?_ hb)))))
              intro  X191 hb
              exact hb
            · rw [if_neg h] at hb
              refine And.intro (fun (h : (Op.cmpValue (FP.dcmp (c.2.2 35 (c.2.1 25 a.toNatClampNeg).toNatClampNeg) (FP.dconst0 : UInt64)) .g) < 0) => ?_) (fun (h : ¬ (Op.cmpValue (FP.dcmp (c.2.2 35 (c.2.1 25 a.toNatClampNeg).toNatClampNeg) (FP.dconst0 : UInt64)) .g) < 0) => ?_)
              · rw [if_pos h] at hb
                refine And.intro trivial (mnX4_divided ?_ hb)
                intro r192 hb
                refine And.intro trivial (mnX4_divided ?_ hb)
                intro r193 hb
                refine And.intro trivial (mnX4_divided ?_ hb)
                intro r194 hb
                refine And.intro trivial (mnX4_divided ?_ hb)
                intro r195 hb
                refine Exists.intro c (Exists.intro u (Exists.intro M ((And.intro rfl (mnX4_putFour ?_ hb)))))
                intro  X196 hb
                exact hb
              · rw [if_neg h] at hb
                refine Exists.intro c (Exists.intro u (Exists.intro M ((And.intro rfl (mnX4_put ?_ hb)))))
                intro  X197 hb
                exact hb
          refine And.intro (fun (hw : (c.2.1 23 a.toNatClampNeg) = (6 : Int32)) => ?_) ?_
          · rw [if_neg (show ¬ ((c.2.1 23 a.toNatClampNeg).toInt < 2 ∨ 12 < (c.2.1 23 a.toNatClampNeg).toInt) by rw [hw]; decide), if_neg (show ¬ ((c.2.1 23 a.toNatClampNeg) = (2 : Int32)) by rw [hw]; decide), if_neg (show ¬ ((c.2.1 23 a.toNatClampNeg) = (3 : Int32)) by rw [hw]; decide), if_neg (show ¬ ((c.2.1 23 a.toNatClampNeg) = (4 : Int32)) by rw [hw]; decide), if_neg (show ¬ ((c.2.1 23 a.toNatClampNeg) = (5 : Int32)) by rw [hw]; decide), if_pos hw] at hb
            refine And.intro trivial (mnX4_made ?_ hb)
            intro r198 hb
            refine And.intro trivial (mnX4_made ?_ hb)
            intro r199 hb
            refine Exists.intro c (Exists.intro u (Exists.intro M ((And.intro rfl (mnX4_put ?_ hb)))))
            intro  X200 hb
            exact hb
          refine And.intro (fun (hw : (c.2.1 23 a.toNatClampNeg) = (7 : Int32)) => ?_) ?_
          · rw [if_neg (show ¬ ((c.2.1 23 a.toNatClampNeg).toInt < 2 ∨ 12 < (c.2.1 23 a.toNatClampNeg).toInt) by rw [hw]; decide), if_neg (show ¬ ((c.2.1 23 a.toNatClampNeg) = (2 : Int32)) by rw [hw]; decide), if_neg (show ¬ ((c.2.1 23 a.toNatClampNeg) = (3 : Int32)) by rw [hw]; decide), if_neg (show ¬ ((c.2.1 23 a.toNatClampNeg) = (4 : Int32)) by rw [hw]; decide), if_neg (show ¬ ((c.2.1 23 a.toNatClampNeg) = (5 : Int32)) by rw [hw]; decide), if_neg (show ¬ ((c.2.1 23 a.toNatClampNeg) = (6 : Int32)) by rw [hw]; decide), if_pos hw] at hb
            refine And.intro trivial (mnX4_made ?_ hb)
            intro r201 hb
            refine And.intro trivial (mnX4_made ?_ hb)
            intro r202 hb
            refine Exists.intro c (Exists.intro u (Exists.intro M ((And.intro rfl (mnX4_put ?_ hb)))))
            intro  X203 hb
            exact hb
          refine And.intro (fun (hw : (c.2.1 23 a.toNatClampNeg) = (8 : Int32)) => ?_) ?_
          · rw [if_neg (show ¬ ((c.2.1 23 a.toNatClampNeg).toInt < 2 ∨ 12 < (c.2.1 23 a.toNatClampNeg).toInt) by rw [hw]; decide), if_neg (show ¬ ((c.2.1 23 a.toNatClampNeg) = (2 : Int32)) by rw [hw]; decide), if_neg (show ¬ ((c.2.1 23 a.toNatClampNeg) = (3 : Int32)) by rw [hw]; decide), if_neg (show ¬ ((c.2.1 23 a.toNatClampNeg) = (4 : Int32)) by rw [hw]; decide), if_neg (show ¬ ((c.2.1 23 a.toNatClampNeg) = (5 : Int32)) by rw [hw]; decide), if_neg (show ¬ ((c.2.1 23 a.toNatClampNeg) = (6 : Int32)) by rw [hw]; decide), if_neg (show ¬ ((c.2.1 23 a.toNatClampNeg) = (7 : Int32)) by rw [hw]; decide), if_pos hw] at hb
            refine And.intro trivial (mnX4_sizeLow ?_ hb)
            intro r204 hb
            refine And.intro trivial (mnX4_sizeHigh ?_ hb)
            intro r205 hb
            refine Exists.intro c (Exists.intro u (Exists.intro M ((And.intro rfl (mnX4_putUp ?_ hb)))))
            intro  X206 hb
            exact hb
          refine And.intro (fun (hw : (c.2.1 23 a.toNatClampNeg) = (9 : Int32)) => ?_) ?_
          · rw [if_neg (show ¬ ((c.2.1 23 a.toNatClampNeg).toInt < 2 ∨ 12 < (c.2.1 23 a.toNatClampNeg).toInt) by rw [hw]; decide), if_neg (show ¬ ((c.2.1 23 a.toNatClampNeg) = (2 : Int32)) by rw [hw]; decide), if_neg (show ¬ ((c.2.1 23 a.toNatClampNeg) = (3 : Int32)) by rw [hw]; decide), if_neg (show ¬ ((c.2.1 23 a.toNatClampNeg) = (4 : Int32)) by rw [hw]; decide), if_neg (show ¬ ((c.2.1 23 a.toNatClampNeg) = (5 : Int32)) by rw [hw]; decide), if_neg (show ¬ ((c.2.1 23 a.toNatClampNeg) = (6 : Int32)) by rw [hw]; decide), if_neg (show ¬ ((c.2.1 23 a.toNatClampNeg) = (7 : Int32)) by rw [hw]; decide), if_neg (show ¬ ((c.2.1 23 a.toNatClampNeg) = (8 : Int32)) by rw [hw]; decide), if_pos hw] at hb
            refine And.intro (fun (h : 0 ≤ (Op.cmpValue (FP.dcmp (c.2.2 34 (c.2.1 24 a.toNatClampNeg).toNatClampNeg) (FP.dconst0 : UInt64)) .g)) => ?_) (fun (h : ¬ 0 ≤ (Op.cmpValue (FP.dcmp (c.2.2 34 (c.2.1 24 a.toNatClampNeg).toNatClampNeg) (FP.dconst0 : UInt64)) .g)) => ?_)
            · rw [if_pos h] at hb
              refine And.intro trivial (mnX4_root ?_ hb)
              intro r207 hb
              refine And.intro trivial (mnX4_down ?_ hb)
              intro r208 hb
              refine And.intro trivial (mnX4_root ?_ hb)
              intro r209 hb
              refine And.intro trivial (mnX4_up ?_ hb)
              intro r210 hb
              refine Exists.intro c (Exists.intro u (Exists.intro M ((And.intro rfl (mnX4_putUp ?_ hb)))))
              intro  X211 hb
              exact hb
            · rw [if_neg h] at hb
              refine Exists.intro c (Exists.intro u (Exists.intro M ((And.intro rfl (mnX4_put ?_ hb)))))
              intro  X212 hb
              exact hb
          refine And.intro (fun (hw : (c.2.1 23 a.toNatClampNeg) = (10 : Int32)) => ?_) ?_
          · rw [if_neg (show ¬ ((c.2.1 23 a.toNatClampNeg).toInt < 2 ∨ 12 < (c.2.1 23 a.toNatClampNeg).toInt) by rw [hw]; decide), if_neg (show ¬ ((c.2.1 23 a.toNatClampNeg) = (2 : Int32)) by rw [hw]; decide), if_neg (show ¬ ((c.2.1 23 a.toNatClampNeg) = (3 : Int32)) by rw [hw]; decide), if_neg (show ¬ ((c.2.1 23 a.toNatClampNeg) = (4 : Int32)) by rw [hw]; decide), if_neg (show ¬ ((c.2.1 23 a.toNatClampNeg) = (5 : Int32)) by rw [hw]; decide), if_neg (show ¬ ((c.2.1 23 a.toNatClampNeg) = (6 : Int32)) by rw [hw]; decide), if_neg (show ¬ ((c.2.1 23 a.toNatClampNeg) = (7 : Int32)) by rw [hw]; decide), if_neg (show ¬ ((c.2.1 23 a.toNatClampNeg) = (8 : Int32)) by rw [hw]; decide), if_neg (show ¬ ((c.2.1 23 a.toNatClampNeg) = (9 : Int32)) by rw [hw]; decide), if_pos hw] at hb
            refine And.intro trivial (mnX4_sizeLow ?_ hb)
            intro r213 hb
            refine And.intro trivial (mnX4_sizeHigh ?_ hb)
            intro r214 hb
            refine And.intro (fun (h : 0 ≤ (Op.cmpValue (FP.dcmp r213 (FP.dconst0 : UInt64)) .g)) => ?_) (fun (h : ¬ 0 ≤ (Op.cmpValue (FP.dcmp r213 (FP.dconst0 : UInt64)) .g)) => ?_)
            · rw [if_pos h] at hb
              obtain ⟨hi, hb⟩ := hb
              refine And.intro hi ?_
              refine And.intro trivial (mnX4_down ?_ hb)
              intro r215 hb
              obtain ⟨hi, hb⟩ := hb
              refine And.intro hi ?_
              refine And.intro trivial (mnX4_up ?_ hb)
              intro r216 hb
              refine Exists.intro c (Exists.intro u (Exists.intro M ((And.intro rfl (mnX4_putUp ?_ hb)))))
              intro  X217 hb
              exact hb
            · rw [if_neg h] at hb
              obtain ⟨hi, hb⟩ := hb
              refine And.intro hi ?_
              refine And.intro trivial (mnX4_down ?_ hb)
              intro r218 hb
              obtain ⟨hi, hb⟩ := hb
              refine And.intro hi ?_
              refine And.intro trivial (mnX4_up ?_ hb)
              intro r219 hb
              refine Exists.intro c (Exists.intro u (Exists.intro M ((And.intro rfl (mnX4_putUp ?_ hb)))))
              intro  X220 hb
              exact hb
          refine And.intro (fun (hw : (c.2.1 23 a.toNatClampNeg) = (11 : Int32)) => ?_) ?_
          · rw [if_neg (show ¬ ((c.2.1 23 a.toNatClampNeg).toInt < 2 ∨ 12 < (c.2.1 23 a.toNatClampNeg).toInt) by rw [hw]; decide), if_neg (show ¬ ((c.2.1 23 a.toNatClampNeg) = (2 : Int32)) by rw [hw]; decide), if_neg (show ¬ ((c.2.1 23 a.toNatClampNeg) = (3 : Int32)) by rw [hw]; decide), if_neg (show ¬ ((c.2.1 23 a.toNatClampNeg) = (4 : Int32)) by rw [hw]; decide), if_neg (show ¬ ((c.2.1 23 a.toNatClampNeg) = (5 : Int32)) by rw [hw]; decide), if_neg (show ¬ ((c.2.1 23 a.toNatClampNeg) = (6 : Int32)) by rw [hw]; decide), if_neg (show ¬ ((c.2.1 23 a.toNatClampNeg) = (7 : Int32)) by rw [hw]; decide), if_neg (show ¬ ((c.2.1 23 a.toNatClampNeg) = (8 : Int32)) by rw [hw]; decide), if_neg (show ¬ ((c.2.1 23 a.toNatClampNeg) = (9 : Int32)) by rw [hw]; decide), if_neg (show ¬ ((c.2.1 23 a.toNatClampNeg) = (10 : Int32)) by rw [hw]; decide), if_pos hw] at hb
            refine And.intro trivial (mnX4_made ?_ hb)
            intro r221 hb
            refine And.intro trivial (mnX4_made ?_ hb)
            intro r222 hb
            refine Exists.intro c (Exists.intro u (Exists.intro M ((And.intro rfl (mnX4_put ?_ hb)))))
            intro  X223 hb
            exact hb
          refine And.intro (fun (hw : (c.2.1 23 a.toNatClampNeg) = (12 : Int32)) => ?_) ?_
          · rw [if_neg (show ¬ ((c.2.1 23 a.toNatClampNeg).toInt < 2 ∨ 12 < (c.2.1 23 a.toNatClampNeg).toInt) by rw [hw]; decide), if_neg (show ¬ ((c.2.1 23 a.toNatClampNeg) = (2 : Int32)) by rw [hw]; decide), if_neg (show ¬ ((c.2.1 23 a.toNatClampNeg) = (3 : Int32)) by rw [hw]; decide), if_neg (show ¬ ((c.2.1 23 a.toNatClampNeg) = (4 : Int32)) by rw [hw]; decide), if_neg (show ¬ ((c.2.1 23 a.toNatClampNeg) = (5 : Int32)) by rw [hw]; decide), if_neg (show ¬ ((c.2.1 23 a.toNatClampNeg) = (6 : Int32)) by rw [hw]; decide), if_neg (show ¬ ((c.2.1 23 a.toNatClampNeg) = (7 : Int32)) by rw [hw]; decide), if_neg (show ¬ ((c.2.1 23 a.toNatClampNeg) = (8 : Int32)) by rw [hw]; decide), if_neg (show ¬ ((c.2.1 23 a.toNatClampNeg) = (9 : Int32)) by rw [hw]; decide), if_neg (show ¬ ((c.2.1 23 a.toNatClampNeg) = (10 : Int32)) by rw [hw]; decide), if_neg (show ¬ ((c.2.1 23 a.toNatClampNeg) = (11 : Int32)) by rw [hw]; decide)] at hb
            refine Exists.intro c (Exists.intro u (Exists.intro M ((And.intro rfl (mnX4_put ?_ hb)))))
            intro  X224 hb
            exact hb
          exact trivial
    · rw [if_pos h] at hb
      obtain ⟨hi, hb⟩ := hb
      refine And.intro hi ?_
      obtain ⟨hi, hb⟩ := hb
      refine And.intro hi ?_
      refine Exists.intro c (Exists.intro u (Exists.intro M ((And.intro rfl (mnX4_put ?_ hb)))))
      intro  X228 hb
      exact hb
  · rw [if_pos h] at hb
    obtain ⟨hi, hb⟩ := hb
    refine And.intro hi ?_
    obtain ⟨hi, hb⟩ := hb
    refine And.intro hi ?_
    obtain ⟨hi, hb⟩ := hb
    refine And.intro hi ?_
    obtain ⟨hi, hb⟩ := hb
    refine And.intro hi ?_
    refine Exists.intro c (Exists.intro u (Exists.intro M ((And.intro rfl (mnX4_put ?_ hb)))))
    intro  X229 hb
    exact hb
theorem rcX4_enclose : ∀ as σ kk, tX4_enclose as σ kk → ∃ a r fs, as = .ref a :: r ∧ σ[a]? = some (.inr (3, fs)) := by
  intro as σ kk h
  unfold tX4_enclose at h; split at h
  · obtain ⟨c, u, M, rfl, -⟩ := h
    exact ⟨_, _, _, rfl, rfl⟩
  · exact h.elim
set_option maxRecDepth 20000 in
theorem okX4_enclose (l : Launch) : OK l yX4_enclose cX4_enclose 16 none 7 tX4_enclose := by
  intro D τ ρ A as σ post h
  unfold tX4_enclose at h; split at h
  · rename_i a b; obtain ⟨c, u, M, rfl, hw⟩ := h
    refine met_of (P := pgX4_enclose) (CE := ceX4_enclose) (cut := cutX4_enclose) (by decide) kkX4_enclose (coX4_enclose l) (Nat.le_of_ble_eq_true rfl) ?_
    intro G hG
    unfold wX4_enclose at hw
    refine lbX4_enclose_0 hG c u M a b (mbX4_enclose_0 ?_  hw)
    · exact fun _ h => ⟨trivial, h⟩
  · exact h.elim
def bX4_encloseTo_0 (c : MS) (a : Int32) (b : Int32) (kr : MS → Prop) (kc2 : Int32 → Int32 → Int32 → MS → Prop) : Prop :=
  kc2 a b (0 : Int32) c
def bX4_encloseTo_2 (c : MS) (a : Int32) (b : Int32) (l3 : Int32) (kr : MS → Prop) (kc2 : Int32 → Int32 → Int32 → MS → Prop) : Prop :=
  (if a < l3 then
    kr c
  else
    (wX4_enclose c l3 b (fun  X1 => kc2 a b (l3 + (1 : Int32)) X1)))
set_option maxRecDepth 20000 in
theorem mbX4_encloseTo_0 {c : MS} {a : Int32} {b : Int32} {kr kq : MS → Prop} {kc2 kd2 : Int32 → Int32 → Int32 → MS → Prop} (hr : ∀ X, kr X → kq X) (hc2 : ∀ z1 z2 z3 X, kc2 z1 z2 z3 X → kd2 z1 z2 z3 X) (h : bX4_encloseTo_0 c a b kr kc2) : bX4_encloseTo_0 c a b kq kd2 := by
  unfold bX4_encloseTo_0 at h ⊢
  exact hc2 _ _ _ _ h
set_option maxRecDepth 20000 in
theorem mbX4_encloseTo_2 {c : MS} {a : Int32} {b : Int32} {l3 : Int32} {kr kq : MS → Prop} {kc2 kd2 : Int32 → Int32 → Int32 → MS → Prop} (hr : ∀ X, kr X → kq X) (hc2 : ∀ z1 z2 z3 X, kc2 z1 z2 z3 X → kd2 z1 z2 z3 X) (h : bX4_encloseTo_2 c a b l3 kr kc2) : bX4_encloseTo_2 c a b l3 kq kd2 := by
  unfold bX4_encloseTo_2 at h ⊢
  by_cases hc : a < l3
  · rw [if_pos hc] at h ⊢
    exact hr _ h
  · rw [if_neg hc] at h ⊢
    refine mnX4_enclose ?_ h
    intro  X1 h
    exact hc2 _ _ _ _ h
def itX4_encloseTo_2 (kr : MS → Prop) : Nat → Int32 → Int32 → Int32 → MS → Prop
  | 0, _, _, _, _ => False
  | n + 1, a, b, l3, c => bX4_encloseTo_2 c a b l3 kr (fun z1 z2 z3 X => itX4_encloseTo_2 kr n z1 z2 z3 X)
theorem miX4_encloseTo_2 {kr kq : MS → Prop} (hr : ∀ X, kr X → kq X) : ∀ (n : Nat) (z1 : Int32) (z2 : Int32) (z3 : Int32) (X : MS), itX4_encloseTo_2 kr n z1 z2 z3 X → itX4_encloseTo_2 kq n z1 z2 z3 X
  | 0, _, _, _, _, h => h
  | n + 1, _, _, _, _, h => mbX4_encloseTo_2 hr (fun _ _ _ _ h => miX4_encloseTo_2 hr n _ _ _ _ h) h
def wX4_encloseTo (c : MS) (a : Int32) (b : Int32) (kr : MS → Prop) : Prop := bX4_encloseTo_0 c a b kr (fun z1 z2 z3 X => ∃ N, itX4_encloseTo_2 kr N z1 z2 z3 X)
theorem mnX4_encloseTo {c : MS} {a : Int32} {b : Int32} {kr kq : MS → Prop} (hr : ∀ X, kr X → kq X) (h : wX4_encloseTo c a b kr) : wX4_encloseTo c a b kq := mbX4_encloseTo_0 hr (fun _ _ _ _ h => h.elim fun N h => ⟨N, miX4_encloseTo_2 hr N _ _ _ _ h⟩) h
def tX4_encloseTo : Tr := fun as σ k => match as with
  | [.ref 20, .int a, .int b] => ∃ (c : MS) (u : Nat → aE) (M : aS), σ = pre20 u ++ (wM c ++ M) ∧ wX4_encloseTo c a b (fun X => k none (pre20 u ++ (wM X ++ M)))
  | _ => False
def ceX4_encloseTo : List (Nat × Nat × Tr) := (2 * 195 + 1, 2 + 1, tX4_enclose) :: []
theorem coX4_encloseTo (l : Launch) : CEok l yX4_encloseTo.cls 8 ceX4_encloseTo := ce_V (ci := 3) (n := 2) rfl (okX4_enclose l) rcX4_enclose (mw 819 (by decide +kernel) rfl) (mw 821 (by decide +kernel) rfl) (ms 22 (by decide +kernel) rfl) (mw 4 (by decide +kernel) rfl) (mw 822 (by decide +kernel) rfl) rfl (by decide) ⟨by decide, by decide⟩ (ce_0)
abbrev cutX4_encloseTo : List (Nat × List Nat) := [(2, [0, 1, 2, 3])]
set_option maxRecDepth 20000 in
set_option maxHeartbeats 4000000 in
theorem lbX4_encloseTo_0 {G : Nat → LV → List Value → aS → Prop} {post : Option Value → aS → Prop} (hG : ∀ n b pc lv st σ, seg (0, fun _ => 0) pgX4_encloseTo ceX4_encloseTo cutX4_encloseTo G (fun v σ => rFit none v ∧ post v σ) n b pc lv st σ → G pc lv st σ) (c : MS) (u : Nat → aE) (M : aS) (a : Int32) (b : Int32) (hb : bX4_encloseTo_0 c a b (fun X => rFit none none ∧ post none (pre20 u ++ (wM X ++ M))) (fun z1 z2 z3 X => G 2 [(0, .ref 20), (1, .int z1), (2, .int z2), (3, .int z3)] [] (pre20 u ++ (wM X ++ M)))) : G 0 [(0, .ref 20), (1, .int a), (2, .int b)] [] (pre20 u ++ (wM c ++ M)) := by
  unfold bX4_encloseTo_0 at hb
  refine hG 400 false 0 _ _ _ ?_
  exact hb
set_option maxRecDepth 20000 in
set_option maxHeartbeats 4000000 in
theorem lbX4_encloseTo_2 {G : Nat → LV → List Value → aS → Prop} {post : Option Value → aS → Prop} (hG : ∀ n b pc lv st σ, seg (0, fun _ => 0) pgX4_encloseTo ceX4_encloseTo cutX4_encloseTo G (fun v σ => rFit none v ∧ post v σ) n b pc lv st σ → G pc lv st σ) (c : MS) (u : Nat → aE) (M : aS) (a : Int32) (b : Int32) (l3 : Int32) (hb : bX4_encloseTo_2 c a b l3 (fun X => rFit none none ∧ post none (pre20 u ++ (wM X ++ M))) (fun z1 z2 z3 X => G 2 [(0, .ref 20), (1, .int z1), (2, .int z2), (3, .int z3)] [] (pre20 u ++ (wM X ++ M)))) : G 2 [(0, .ref 20), (1, .int a), (2, .int b), (3, .int l3)] [] (pre20 u ++ (wM c ++ M)) := by
  unfold bX4_encloseTo_2 at hb
  refine hG 400 false 2 _ _ _ ?_
  refine And.intro (fun (h : a < l3) => ?_) (fun (h : ¬ a < l3) => ?_)
  · rw [if_pos h] at hb
    exact hb
  · rw [if_neg h] at hb
    refine Exists.intro c (Exists.intro u (Exists.intro M ((And.intro rfl (mnX4_enclose ?_ hb)))))
    intro  X1 hb
    exact hb
theorem giX4_encloseTo_2 {G : Nat → LV → List Value → aS → Prop} {post : Option Value → aS → Prop} (hG : ∀ n b pc lv st σ, seg (0, fun _ => 0) pgX4_encloseTo ceX4_encloseTo cutX4_encloseTo G (fun v σ => rFit none v ∧ post v σ) n b pc lv st σ → G pc lv st σ) (u : Nat → aE) (M : aS) : ∀ (n : Nat) (z1 : Int32) (z2 : Int32) (z3 : Int32) (X : MS), itX4_encloseTo_2 (fun X => rFit none none ∧ post none (pre20 u ++ (wM X ++ M))) n z1 z2 z3 X → G 2 [(0, .ref 20), (1, .int z1), (2, .int z2), (3, .int z3)] [] (pre20 u ++ (wM X ++ M))
  | 0, _, _, _, _, h => h.elim
  | n + 1, _, _, _, _, h => lbX4_encloseTo_2 hG _ u M _ _ _ (mbX4_encloseTo_2 (fun _ h => h) (fun _ _ _ _ h => giX4_encloseTo_2 hG u M n _ _ _ _ h) h)
theorem rcX4_encloseTo : ∀ as σ kk, tX4_encloseTo as σ kk → ∃ a r fs, as = .ref a :: r ∧ σ[a]? = some (.inr (3, fs)) := by
  intro as σ kk h
  unfold tX4_encloseTo at h; split at h
  · obtain ⟨c, u, M, rfl, -⟩ := h
    exact ⟨_, _, _, rfl, rfl⟩
  · exact h.elim
set_option maxRecDepth 20000 in
theorem okX4_encloseTo (l : Launch) : OK l yX4_encloseTo cX4_encloseTo 4 none 8 tX4_encloseTo := by
  intro D τ ρ A as σ post h
  unfold tX4_encloseTo at h; split at h
  · rename_i a b; obtain ⟨c, u, M, rfl, hw⟩ := h
    refine met_of (P := pgX4_encloseTo) (CE := ceX4_encloseTo) (cut := cutX4_encloseTo) (by decide) kkX4_encloseTo (coX4_encloseTo l) (Nat.le_of_ble_eq_true rfl) ?_
    intro G hG
    unfold wX4_encloseTo at hw
    refine lbX4_encloseTo_0 hG c u M a b (mbX4_encloseTo_0 ?_ ?_ hw)
    · exact fun _ h => ⟨trivial, h⟩
    · intro _ _ _ _ ⟨N, h⟩; exact giX4_encloseTo_2 hG u M N _ _ _ _ (miX4_encloseTo_2 (fun _ h => ⟨trivial, h⟩) N _ _ _ _ h)
  · exact h.elim
def bX4_holds_0 (c : MS) (a : Int32) (b : Int32) (kr : Int32 → MS → Prop)  : Prop :=
  (vp_in a 5 ∧ (if (c.2.1 27 a.toNatClampNeg) = (-5 : Int32) then
    kr (1 : Int32) c
  else
    (wX4_encloseTo c (c.2.1 27 a.toNatClampNeg) b (fun  X1 => (vp_in (c.2.1 27 a.toNatClampNeg) 32 ∧ (if (Op.cmpValue (FP.dcmp (X1.2.2 34 (c.2.1 27 a.toNatClampNeg).toNatClampNeg) (FP.dconst0 : UInt64)) .l) ≤ 0 then
      (vp_in (c.2.1 27 a.toNatClampNeg) 32 ∧ (if 0 < (Op.cmpValue (FP.dcmp (X1.2.2 35 (c.2.1 27 a.toNatClampNeg).toNatClampNeg) (FP.dconst0 : UInt64)) .l) then
        kr (-1 : Int32) X1
      else
        kr (0 : Int32) X1))
    else
      kr (1 : Int32) X1))))))
set_option maxRecDepth 20000 in
theorem mbX4_holds_0 {c : MS} {a : Int32} {b : Int32} {kr kq : Int32 → MS → Prop}  (hr : ∀ x X, kr x X → kq x X)  (h : bX4_holds_0 c a b kr ) : bX4_holds_0 c a b kq  := by
  unfold bX4_holds_0 at h ⊢
  obtain ⟨hi, h⟩ := h
  refine And.intro hi ?_
  by_cases hc : (c.2.1 27 a.toNatClampNeg) = (-5 : Int32)
  · rw [if_pos hc] at h ⊢
    exact hr _ _ h
  · rw [if_neg hc] at h ⊢
    refine mnX4_encloseTo ?_ h
    intro  X1 h
    obtain ⟨hi, h⟩ := h
    refine And.intro hi ?_
    by_cases hc : (Op.cmpValue (FP.dcmp (X1.2.2 34 (c.2.1 27 a.toNatClampNeg).toNatClampNeg) (FP.dconst0 : UInt64)) .l) ≤ 0
    · rw [if_pos hc] at h ⊢
      obtain ⟨hi, h⟩ := h
      refine And.intro hi ?_
      by_cases hc : 0 < (Op.cmpValue (FP.dcmp (X1.2.2 35 (c.2.1 27 a.toNatClampNeg).toNatClampNeg) (FP.dconst0 : UInt64)) .l)
      · rw [if_pos hc] at h ⊢
        exact hr _ _ h
      · rw [if_neg hc] at h ⊢
        exact hr _ _ h
    · rw [if_neg hc] at h ⊢
      exact hr _ _ h
def wX4_holds (c : MS) (a : Int32) (b : Int32) (kr : Int32 → MS → Prop) : Prop := bX4_holds_0 c a b kr 
theorem mnX4_holds {c : MS} {a : Int32} {b : Int32} {kr kq : Int32 → MS → Prop} (hr : ∀ x X, kr x X → kq x X) (h : wX4_holds c a b kr) : wX4_holds c a b kq := mbX4_holds_0 hr  h
def tX4_holds : Tr := fun as σ k => match as with
  | [.ref 20, .int a, .int b] => ∃ (c : MS) (u : Nat → aE) (M : aS), σ = pre20 u ++ (wM c ++ M) ∧ wX4_holds c a b (fun x X => k (some (.int x)) (pre20 u ++ (wM X ++ M)))
  | _ => False
def ceX4_holds : List (Nat × Nat × Tr) := (2 * 199 + 1, 2 + 1, tX4_encloseTo) :: []
theorem coX4_holds (l : Launch) : CEok l yX4_holds.cls 9 ceX4_holds := ce_V (ci := 3) (n := 2) rfl (okX4_encloseTo l) rcX4_encloseTo (mw 815 (by decide +kernel) rfl) (mw 817 (by decide +kernel) rfl) (ms 21 (by decide +kernel) rfl) (mw 4 (by decide +kernel) rfl) (mw 818 (by decide +kernel) rfl) rfl (by decide) ⟨by decide, by decide⟩ (ce_0)
abbrev cutX4_holds : List (Nat × List Nat) := []
set_option maxRecDepth 20000 in
set_option maxHeartbeats 4000000 in
theorem lbX4_holds_0 {G : Nat → LV → List Value → aS → Prop} {post : Option Value → aS → Prop} (hG : ∀ n b pc lv st σ, seg (0, fun _ => 0) pgX4_holds ceX4_holds cutX4_holds G (fun v σ => rFit (some .int) v ∧ post v σ) n b pc lv st σ → G pc lv st σ) (c : MS) (u : Nat → aE) (M : aS) (a : Int32) (b : Int32) (hb : bX4_holds_0 c a b (fun x X => rFit (some .int) (some (.int x)) ∧ post (some (.int x)) (pre20 u ++ (wM X ++ M))) ) : G 0 [(0, .ref 20), (1, .int a), (2, .int b)] [] (pre20 u ++ (wM c ++ M)) := by
  unfold bX4_holds_0 at hb
  refine hG 400 false 0 _ _ _ ?_
  obtain ⟨hi, hb⟩ := hb
  refine And.intro hi ?_
  refine And.intro (fun (h : ¬ (c.2.1 27 a.toNatClampNeg) = (-5 : Int32)) => ?_) (fun hq => have h : (c.2.1 27 a.toNatClampNeg) = (-5 : Int32) := Classical.not_not.mp hq; ?_)
  · rw [if_neg h] at hb
    refine Exists.intro c (Exists.intro u (Exists.intro M ((And.intro rfl (mnX4_encloseTo ?_ hb)))))
    intro  X1 hb
    obtain ⟨hi, hb⟩ := hb
    refine And.intro hi ?_
    refine And.intro (fun (h : (Op.cmpValue (FP.dcmp (X1.2.2 34 (c.2.1 27 a.toNatClampNeg).toNatClampNeg) (FP.dconst0 : UInt64)) .l) ≤ 0) => ?_) (fun (h : ¬ (Op.cmpValue (FP.dcmp (X1.2.2 34 (c.2.1 27 a.toNatClampNeg).toNatClampNeg) (FP.dconst0 : UInt64)) .l) ≤ 0) => ?_)
    · rw [if_pos h] at hb
      obtain ⟨hi, hb⟩ := hb
      refine And.intro hi ?_
      refine And.intro (fun (h : 0 < (Op.cmpValue (FP.dcmp (X1.2.2 35 (c.2.1 27 a.toNatClampNeg).toNatClampNeg) (FP.dconst0 : UInt64)) .l)) => ?_) (fun (h : ¬ 0 < (Op.cmpValue (FP.dcmp (X1.2.2 35 (c.2.1 27 a.toNatClampNeg).toNatClampNeg) (FP.dconst0 : UInt64)) .l)) => ?_)
      · rw [if_pos h] at hb
        exact hb
      · rw [if_neg h] at hb
        exact hb
    · rw [if_neg h] at hb
      exact hb
  · rw [if_pos h] at hb
    exact hb
theorem rcX4_holds : ∀ as σ kk, tX4_holds as σ kk → ∃ a r fs, as = .ref a :: r ∧ σ[a]? = some (.inr (3, fs)) := by
  intro as σ kk h
  unfold tX4_holds at h; split at h
  · obtain ⟨c, u, M, rfl, -⟩ := h
    exact ⟨_, _, _, rfl, rfl⟩
  · exact h.elim
set_option maxRecDepth 20000 in
theorem okX4_holds (l : Launch) : OK l yX4_holds cX4_holds 4 (some .int) 9 tX4_holds := by
  intro D τ ρ A as σ post h
  unfold tX4_holds at h; split at h
  · rename_i a b; obtain ⟨c, u, M, rfl, hw⟩ := h
    refine met_of (P := pgX4_holds) (CE := ceX4_holds) (cut := cutX4_holds) (by decide) kkX4_holds (coX4_holds l) (Nat.le_of_ble_eq_true rfl) ?_
    intro G hG
    unfold wX4_holds at hw
    refine lbX4_holds_0 hG c u M a b (mbX4_holds_0 ?_  hw)
    · exact fun _ _ h => ⟨trivial, h⟩
  · exact h.elim
def bX4_times_0 (c : MS) (a : Int32) (b : UInt64) (d : UInt64) (kr : MS → Prop)  : Prop :=
  (vp_in a 100 ∧ (if 0 ≤ (Op.cmpValue (FP.dcmp b (FP.dconst0 : UInt64)) .g) then
    (wX4_timed (c.2.2 31 a.toNatClampNeg) b (fun r1 => (wX4_down r1 (fun r2 => (vp_in a 100 ∧ (if 0 ≤ (Op.cmpValue (FP.dcmp d (FP.dconst0 : UInt64)) .g) then
      (wX4_timed (c.2.2 32 a.toNatClampNeg) d (fun r3 => (wX4_up r3 (fun r4 => (if (Op.cmpValue (FP.dcmp r2 (FP.dconst0 : UInt64)) .l) < 0 then
        (vp_in a 100 ∧ (if (Op.cmpValue (FP.dcmp r4 r4) .l) = 0 then
          (vp_in a 100 ∧ (∀ Y5 : MS, Y5 = (msetL (msetL c 31 (vf_upd (c.2.2 31) a.toNatClampNeg (FP.dconst0 : UInt64))) 32 (vf_upd ((msetL c 31 (vf_upd (c.2.2 31) a.toNatClampNeg (FP.dconst0 : UInt64))).2.2 32) a.toNatClampNeg r4)) → kr Y5))
        else
          (vp_in a 100 ∧ (∀ Y6 : MS, Y6 = (msetL (msetL c 31 (vf_upd (c.2.2 31) a.toNatClampNeg (FP.dconst0 : UInt64))) 32 (vf_upd ((msetL c 31 (vf_upd (c.2.2 31) a.toNatClampNeg (FP.dconst0 : UInt64))).2.2 32) a.toNatClampNeg (9218868437227405312 : UInt64))) → kr Y6))))
      else
        (vp_in a 100 ∧ (if (Op.cmpValue (FP.dcmp r4 r4) .l) = 0 then
          (vp_in a 100 ∧ (∀ Y7 : MS, Y7 = (msetL (msetL c 31 (vf_upd (c.2.2 31) a.toNatClampNeg r2)) 32 (vf_upd ((msetL c 31 (vf_upd (c.2.2 31) a.toNatClampNeg r2)).2.2 32) a.toNatClampNeg r4)) → kr Y7))
        else
          (vp_in a 100 ∧ (∀ Y8 : MS, Y8 = (msetL (msetL c 31 (vf_upd (c.2.2 31) a.toNatClampNeg r2)) 32 (vf_upd ((msetL c 31 (vf_upd (c.2.2 31) a.toNatClampNeg r2)).2.2 32) a.toNatClampNeg (9218868437227405312 : UInt64))) → kr Y8)))))))))
    else
      (wX4_timed (c.2.2 32 a.toNatClampNeg) (FP.dconst0 : UInt64) (fun r9 => (wX4_up r9 (fun r10 => (if (Op.cmpValue (FP.dcmp r2 (FP.dconst0 : UInt64)) .l) < 0 then
        (vp_in a 100 ∧ (if (Op.cmpValue (FP.dcmp r10 r10) .l) = 0 then
          (vp_in a 100 ∧ (∀ Y11 : MS, Y11 = (msetL (msetL c 31 (vf_upd (c.2.2 31) a.toNatClampNeg (FP.dconst0 : UInt64))) 32 (vf_upd ((msetL c 31 (vf_upd (c.2.2 31) a.toNatClampNeg (FP.dconst0 : UInt64))).2.2 32) a.toNatClampNeg r10)) → kr Y11))
        else
          (vp_in a 100 ∧ (∀ Y12 : MS, Y12 = (msetL (msetL c 31 (vf_upd (c.2.2 31) a.toNatClampNeg (FP.dconst0 : UInt64))) 32 (vf_upd ((msetL c 31 (vf_upd (c.2.2 31) a.toNatClampNeg (FP.dconst0 : UInt64))).2.2 32) a.toNatClampNeg (9218868437227405312 : UInt64))) → kr Y12))))
      else
        (vp_in a 100 ∧ (if (Op.cmpValue (FP.dcmp r10 r10) .l) = 0 then
          (vp_in a 100 ∧ (∀ Y13 : MS, Y13 = (msetL (msetL c 31 (vf_upd (c.2.2 31) a.toNatClampNeg r2)) 32 (vf_upd ((msetL c 31 (vf_upd (c.2.2 31) a.toNatClampNeg r2)).2.2 32) a.toNatClampNeg r10)) → kr Y13))
        else
          (vp_in a 100 ∧ (∀ Y14 : MS, Y14 = (msetL (msetL c 31 (vf_upd (c.2.2 31) a.toNatClampNeg r2)) 32 (vf_upd ((msetL c 31 (vf_upd (c.2.2 31) a.toNatClampNeg r2)).2.2 32) a.toNatClampNeg (9218868437227405312 : UInt64))) → kr Y14)))))))))))))))
  else
    (wX4_timed (c.2.2 31 a.toNatClampNeg) (FP.dconst0 : UInt64) (fun r15 => (wX4_down r15 (fun r16 => (vp_in a 100 ∧ (if 0 ≤ (Op.cmpValue (FP.dcmp d (FP.dconst0 : UInt64)) .g) then
      (wX4_timed (c.2.2 32 a.toNatClampNeg) d (fun r17 => (wX4_up r17 (fun r18 => (if (Op.cmpValue (FP.dcmp r16 (FP.dconst0 : UInt64)) .l) < 0 then
        (vp_in a 100 ∧ (if (Op.cmpValue (FP.dcmp r18 r18) .l) = 0 then
          (vp_in a 100 ∧ (∀ Y19 : MS, Y19 = (msetL (msetL c 31 (vf_upd (c.2.2 31) a.toNatClampNeg (FP.dconst0 : UInt64))) 32 (vf_upd ((msetL c 31 (vf_upd (c.2.2 31) a.toNatClampNeg (FP.dconst0 : UInt64))).2.2 32) a.toNatClampNeg r18)) → kr Y19))
        else
          (vp_in a 100 ∧ (∀ Y20 : MS, Y20 = (msetL (msetL c 31 (vf_upd (c.2.2 31) a.toNatClampNeg (FP.dconst0 : UInt64))) 32 (vf_upd ((msetL c 31 (vf_upd (c.2.2 31) a.toNatClampNeg (FP.dconst0 : UInt64))).2.2 32) a.toNatClampNeg (9218868437227405312 : UInt64))) → kr Y20))))
      else
        (vp_in a 100 ∧ (if (Op.cmpValue (FP.dcmp r18 r18) .l) = 0 then
          (vp_in a 100 ∧ (∀ Y21 : MS, Y21 = (msetL (msetL c 31 (vf_upd (c.2.2 31) a.toNatClampNeg r16)) 32 (vf_upd ((msetL c 31 (vf_upd (c.2.2 31) a.toNatClampNeg r16)).2.2 32) a.toNatClampNeg r18)) → kr Y21))
        else
          (vp_in a 100 ∧ (∀ Y22 : MS, Y22 = (msetL (msetL c 31 (vf_upd (c.2.2 31) a.toNatClampNeg r16)) 32 (vf_upd ((msetL c 31 (vf_upd (c.2.2 31) a.toNatClampNeg r16)).2.2 32) a.toNatClampNeg (9218868437227405312 : UInt64))) → kr Y22)))))))))
    else
      (wX4_timed (c.2.2 32 a.toNatClampNeg) (FP.dconst0 : UInt64) (fun r23 => (wX4_up r23 (fun r24 => (if (Op.cmpValue (FP.dcmp r16 (FP.dconst0 : UInt64)) .l) < 0 then
        (vp_in a 100 ∧ (if (Op.cmpValue (FP.dcmp r24 r24) .l) = 0 then
          (vp_in a 100 ∧ (∀ Y25 : MS, Y25 = (msetL (msetL c 31 (vf_upd (c.2.2 31) a.toNatClampNeg (FP.dconst0 : UInt64))) 32 (vf_upd ((msetL c 31 (vf_upd (c.2.2 31) a.toNatClampNeg (FP.dconst0 : UInt64))).2.2 32) a.toNatClampNeg r24)) → kr Y25))
        else
          (vp_in a 100 ∧ (∀ Y26 : MS, Y26 = (msetL (msetL c 31 (vf_upd (c.2.2 31) a.toNatClampNeg (FP.dconst0 : UInt64))) 32 (vf_upd ((msetL c 31 (vf_upd (c.2.2 31) a.toNatClampNeg (FP.dconst0 : UInt64))).2.2 32) a.toNatClampNeg (9218868437227405312 : UInt64))) → kr Y26))))
      else
        (vp_in a 100 ∧ (if (Op.cmpValue (FP.dcmp r24 r24) .l) = 0 then
          (vp_in a 100 ∧ (∀ Y27 : MS, Y27 = (msetL (msetL c 31 (vf_upd (c.2.2 31) a.toNatClampNeg r16)) 32 (vf_upd ((msetL c 31 (vf_upd (c.2.2 31) a.toNatClampNeg r16)).2.2 32) a.toNatClampNeg r24)) → kr Y27))
        else
          (vp_in a 100 ∧ (∀ Y28 : MS, Y28 = (msetL (msetL c 31 (vf_upd (c.2.2 31) a.toNatClampNeg r16)) 32 (vf_upd ((msetL c 31 (vf_upd (c.2.2 31) a.toNatClampNeg r16)).2.2 32) a.toNatClampNeg (9218868437227405312 : UInt64))) → kr Y28)))))))))))))))))
set_option maxRecDepth 20000 in
theorem mbX4_times_0 {c : MS} {a : Int32} {b : UInt64} {d : UInt64} {kr kq : MS → Prop}  (hr : ∀ X, kr X → kq X)  (h : bX4_times_0 c a b d kr ) : bX4_times_0 c a b d kq  := by
  unfold bX4_times_0 at h ⊢
  obtain ⟨hi, h⟩ := h
  refine And.intro hi ?_
  by_cases hc : 0 ≤ (Op.cmpValue (FP.dcmp b (FP.dconst0 : UInt64)) .g)
  · rw [if_pos hc] at h ⊢
    refine mnX4_timed ?_ h
    intro r1 h
    refine mnX4_down ?_ h
    intro r2 h
    obtain ⟨hi, h⟩ := h
    refine And.intro hi ?_
    by_cases hc : 0 ≤ (Op.cmpValue (FP.dcmp d (FP.dconst0 : UInt64)) .g)
    · rw [if_pos hc] at h ⊢
      refine mnX4_timed ?_ h
      intro r3 h
      refine mnX4_up ?_ h
      intro r4 h
      by_cases hc : (Op.cmpValue (FP.dcmp r2 (FP.dconst0 : UInt64)) .l) < 0
      · rw [if_pos hc] at h ⊢
        obtain ⟨hi, h⟩ := h
        refine And.intro hi ?_
        by_cases hc : (Op.cmpValue (FP.dcmp r4 r4) .l) = 0
        · rw [if_pos hc] at h ⊢
          obtain ⟨hi, h⟩ := h
          refine And.intro hi ?_
          intro Y5 eY5
          replace h := h _ eY5
          exact hr _ h
        · rw [if_neg hc] at h ⊢
          obtain ⟨hi, h⟩ := h
          refine And.intro hi ?_
          intro Y6 eY6
          replace h := h _ eY6
          exact hr _ h
      · rw [if_neg hc] at h ⊢
        obtain ⟨hi, h⟩ := h
        refine And.intro hi ?_
        by_cases hc : (Op.cmpValue (FP.dcmp r4 r4) .l) = 0
        · rw [if_pos hc] at h ⊢
          obtain ⟨hi, h⟩ := h
          refine And.intro hi ?_
          intro Y7 eY7
          replace h := h _ eY7
          exact hr _ h
        · rw [if_neg hc] at h ⊢
          obtain ⟨hi, h⟩ := h
          refine And.intro hi ?_
          intro Y8 eY8
          replace h := h _ eY8
          exact hr _ h
    · rw [if_neg hc] at h ⊢
      refine mnX4_timed ?_ h
      intro r9 h
      refine mnX4_up ?_ h
      intro r10 h
      by_cases hc : (Op.cmpValue (FP.dcmp r2 (FP.dconst0 : UInt64)) .l) < 0
      · rw [if_pos hc] at h ⊢
        obtain ⟨hi, h⟩ := h
        refine And.intro hi ?_
        by_cases hc : (Op.cmpValue (FP.dcmp r10 r10) .l) = 0
        · rw [if_pos hc] at h ⊢
          obtain ⟨hi, h⟩ := h
          refine And.intro hi ?_
          intro Y11 eY11
          replace h := h _ eY11
          exact hr _ h
        · rw [if_neg hc] at h ⊢
          obtain ⟨hi, h⟩ := h
          refine And.intro hi ?_
          intro Y12 eY12
          replace h := h _ eY12
          exact hr _ h
      · rw [if_neg hc] at h ⊢
        obtain ⟨hi, h⟩ := h
        refine And.intro hi ?_
        by_cases hc : (Op.cmpValue (FP.dcmp r10 r10) .l) = 0
        · rw [if_pos hc] at h ⊢
          obtain ⟨hi, h⟩ := h
          refine And.intro hi ?_
          intro Y13 eY13
          replace h := h _ eY13
          exact hr _ h
        · rw [if_neg hc] at h ⊢
          obtain ⟨hi, h⟩ := h
          refine And.intro hi ?_
          intro Y14 eY14
          replace h := h _ eY14
          exact hr _ h
  · rw [if_neg hc] at h ⊢
    refine mnX4_timed ?_ h
    intro r15 h
    refine mnX4_down ?_ h
    intro r16 h
    obtain ⟨hi, h⟩ := h
    refine And.intro hi ?_
    by_cases hc : 0 ≤ (Op.cmpValue (FP.dcmp d (FP.dconst0 : UInt64)) .g)
    · rw [if_pos hc] at h ⊢
      refine mnX4_timed ?_ h
      intro r17 h
      refine mnX4_up ?_ h
      intro r18 h
      by_cases hc : (Op.cmpValue (FP.dcmp r16 (FP.dconst0 : UInt64)) .l) < 0
      · rw [if_pos hc] at h ⊢
        obtain ⟨hi, h⟩ := h
        refine And.intro hi ?_
        by_cases hc : (Op.cmpValue (FP.dcmp r18 r18) .l) = 0
        · rw [if_pos hc] at h ⊢
          obtain ⟨hi, h⟩ := h
          refine And.intro hi ?_
          intro Y19 eY19
          replace h := h _ eY19
          exact hr _ h
        · rw [if_neg hc] at h ⊢
          obtain ⟨hi, h⟩ := h
          refine And.intro hi ?_
          intro Y20 eY20
          replace h := h _ eY20
          exact hr _ h
      · rw [if_neg hc] at h ⊢
        obtain ⟨hi, h⟩ := h
        refine And.intro hi ?_
        by_cases hc : (Op.cmpValue (FP.dcmp r18 r18) .l) = 0
        · rw [if_pos hc] at h ⊢
          obtain ⟨hi, h⟩ := h
          refine And.intro hi ?_
          intro Y21 eY21
          replace h := h _ eY21
          exact hr _ h
        · rw [if_neg hc] at h ⊢
          obtain ⟨hi, h⟩ := h
          refine And.intro hi ?_
          intro Y22 eY22
          replace h := h _ eY22
          exact hr _ h
    · rw [if_neg hc] at h ⊢
      refine mnX4_timed ?_ h
      intro r23 h
      refine mnX4_up ?_ h
      intro r24 h
      by_cases hc : (Op.cmpValue (FP.dcmp r16 (FP.dconst0 : UInt64)) .l) < 0
      · rw [if_pos hc] at h ⊢
        obtain ⟨hi, h⟩ := h
        refine And.intro hi ?_
        by_cases hc : (Op.cmpValue (FP.dcmp r24 r24) .l) = 0
        · rw [if_pos hc] at h ⊢
          obtain ⟨hi, h⟩ := h
          refine And.intro hi ?_
          intro Y25 eY25
          replace h := h _ eY25
          exact hr _ h
        · rw [if_neg hc] at h ⊢
          obtain ⟨hi, h⟩ := h
          refine And.intro hi ?_
          intro Y26 eY26
          replace h := h _ eY26
          exact hr _ h
      · rw [if_neg hc] at h ⊢
        obtain ⟨hi, h⟩ := h
        refine And.intro hi ?_
        by_cases hc : (Op.cmpValue (FP.dcmp r24 r24) .l) = 0
        · rw [if_pos hc] at h ⊢
          obtain ⟨hi, h⟩ := h
          refine And.intro hi ?_
          intro Y27 eY27
          replace h := h _ eY27
          exact hr _ h
        · rw [if_neg hc] at h ⊢
          obtain ⟨hi, h⟩ := h
          refine And.intro hi ?_
          intro Y28 eY28
          replace h := h _ eY28
          exact hr _ h
def wX4_times (c : MS) (a : Int32) (b : UInt64) (d : UInt64) (kr : MS → Prop) : Prop := bX4_times_0 c a b d kr 
theorem mnX4_times {c : MS} {a : Int32} {b : UInt64} {d : UInt64} {kr kq : MS → Prop} (hr : ∀ X, kr X → kq X) (h : wX4_times c a b d kr) : wX4_times c a b d kq := mbX4_times_0 hr  h
def tX4_times : Tr := fun as σ k => match as with
  | [.ref 20, .int a, .double b, .double d] => ∃ (c : MS) (u : Nat → aE) (M : aS), σ = pre20 u ++ (wM c ++ M) ∧ wX4_times c a b d (fun X => k none (pre20 u ++ (wM X ++ M)))
  | _ => False
def ceX4_times : List (Nat × Nat × Tr) := (2 * 147, 2, tX4_timed) :: (2 * 179, 1, tX4_down) :: (2 * 84, 1, tX4_up) :: []
theorem coX4_times (l : Launch) : CEok l yX4_times.cls 5 ceX4_times := ce_S (okX4_timed l) (mw 760 (by decide +kernel) rfl) (mw 761 (by decide +kernel) rfl) (mw 4 (by decide +kernel) rfl) (mw 762 (by decide +kernel) rfl) (by decide) ⟨by decide, by decide⟩ (ce_S (okX4_down l) (mw 827 (by decide +kernel) rfl) (mw 828 (by decide +kernel) rfl) (mw 4 (by decide +kernel) rfl) (mw 829 (by decide +kernel) rfl) (by decide) ⟨by decide, by decide⟩ (ce_S (okX4_up l) (mw 830 (by decide +kernel) rfl) (mw 831 (by decide +kernel) rfl) (mw 4 (by decide +kernel) rfl) (mw 832 (by decide +kernel) rfl) (by decide) ⟨by decide, by decide⟩ (ce_0)))
abbrev cutX4_times : List (Nat × List Nat) := []
set_option maxRecDepth 20000 in
set_option maxHeartbeats 4000000 in
theorem lbX4_times_0 {G : Nat → LV → List Value → aS → Prop} {post : Option Value → aS → Prop} (hG : ∀ n b pc lv st σ, seg (0, fun _ => 0) pgX4_times ceX4_times cutX4_times G (fun v σ => rFit none v ∧ post v σ) n b pc lv st σ → G pc lv st σ) (c : MS) (u : Nat → aE) (M : aS) (a : Int32) (b : UInt64) (d : UInt64) (hb : bX4_times_0 c a b d (fun X => rFit none none ∧ post none (pre20 u ++ (wM X ++ M))) ) : G 0 [(0, .ref 20), (1, .int a), (2, .double b), (4, .double d)] [] (pre20 u ++ (wM c ++ M)) := by
  unfold bX4_times_0 at hb
  refine hG 400 false 0 _ _ _ ?_
  obtain ⟨hi, hb⟩ := hb
  refine And.intro hi ?_
  refine And.intro (fun (h : 0 ≤ (Op.cmpValue (FP.dcmp b (FP.dconst0 : UInt64)) .g)) => ?_) (fun (h : ¬ 0 ≤ (Op.cmpValue (FP.dcmp b (FP.dconst0 : UInt64)) .g)) => ?_)
  · rw [if_pos h] at hb
    refine And.intro trivial (mnX4_timed ?_ hb)
    intro r1 hb
    refine And.intro trivial (mnX4_down ?_ hb)
    intro r2 hb
    obtain ⟨hi, hb⟩ := hb
    refine And.intro hi ?_
    refine And.intro (fun (h : 0 ≤ (Op.cmpValue (FP.dcmp d (FP.dconst0 : UInt64)) .g)) => ?_) (fun (h : ¬ 0 ≤ (Op.cmpValue (FP.dcmp d (FP.dconst0 : UInt64)) .g)) => ?_)
    · rw [if_pos h] at hb
      refine And.intro trivial (mnX4_timed ?_ hb)
      intro r3 hb
      refine And.intro trivial (mnX4_up ?_ hb)
      intro r4 hb
      refine And.intro (fun (h : (Op.cmpValue (FP.dcmp r2 (FP.dconst0 : UInt64)) .l) < 0) => ?_) (fun (h : ¬ (Op.cmpValue (FP.dcmp r2 (FP.dconst0 : UInt64)) .l) < 0) => ?_)
      · rw [if_pos h] at hb
        obtain ⟨hi, hb⟩ := hb
        refine And.intro hi ?_
        refine And.intro (fun (h : (Op.cmpValue (FP.dcmp r4 r4) .l) = 0) => ?_) (fun (h : ¬ (Op.cmpValue (FP.dcmp r4 r4) .l) = 0) => ?_)
        · rw [if_pos h] at hb
          obtain ⟨hi, hb⟩ := hb
          refine And.intro hi ?_
          let Y5 : MS := (msetL (msetL c 31 (vf_upd (c.2.2 31) a.toNatClampNeg (FP.dconst0 : UInt64))) 32 (vf_upd ((msetL c 31 (vf_upd (c.2.2 31) a.toNatClampNeg (FP.dconst0 : UInt64))).2.2 32) a.toNatClampNeg r4))
          replace hb := hb Y5 rfl
          exact hb
        · rw [if_neg h] at hb
          obtain ⟨hi, hb⟩ := hb
          refine And.intro hi ?_
          let Y6 : MS := (msetL (msetL c 31 (vf_upd (c.2.2 31) a.toNatClampNeg (FP.dconst0 : UInt64))) 32 (vf_upd ((msetL c 31 (vf_upd (c.2.2 31) a.toNatClampNeg (FP.dconst0 : UInt64))).2.2 32) a.toNatClampNeg (9218868437227405312 : UInt64)))
          replace hb := hb Y6 rfl
          exact hb
      · rw [if_neg h] at hb
        obtain ⟨hi, hb⟩ := hb
        refine And.intro hi ?_
        refine And.intro (fun (h : (Op.cmpValue (FP.dcmp r4 r4) .l) = 0) => ?_) (fun (h : ¬ (Op.cmpValue (FP.dcmp r4 r4) .l) = 0) => ?_)
        · rw [if_pos h] at hb
          obtain ⟨hi, hb⟩ := hb
          refine And.intro hi ?_
          let Y7 : MS := (msetL (msetL c 31 (vf_upd (c.2.2 31) a.toNatClampNeg r2)) 32 (vf_upd ((msetL c 31 (vf_upd (c.2.2 31) a.toNatClampNeg r2)).2.2 32) a.toNatClampNeg r4))
          replace hb := hb Y7 rfl
          exact hb
        · rw [if_neg h] at hb
          obtain ⟨hi, hb⟩ := hb
          refine And.intro hi ?_
          let Y8 : MS := (msetL (msetL c 31 (vf_upd (c.2.2 31) a.toNatClampNeg r2)) 32 (vf_upd ((msetL c 31 (vf_upd (c.2.2 31) a.toNatClampNeg r2)).2.2 32) a.toNatClampNeg (9218868437227405312 : UInt64)))
          replace hb := hb Y8 rfl
          exact hb
    · rw [if_neg h] at hb
      refine And.intro trivial (mnX4_timed ?_ hb)
      intro r9 hb
      refine And.intro trivial (mnX4_up ?_ hb)
      intro r10 hb
      refine And.intro (fun (h : (Op.cmpValue (FP.dcmp r2 (FP.dconst0 : UInt64)) .l) < 0) => ?_) (fun (h : ¬ (Op.cmpValue (FP.dcmp r2 (FP.dconst0 : UInt64)) .l) < 0) => ?_)
      · rw [if_pos h] at hb
        obtain ⟨hi, hb⟩ := hb
        refine And.intro hi ?_
        refine And.intro (fun (h : (Op.cmpValue (FP.dcmp r10 r10) .l) = 0) => ?_) (fun (h : ¬ (Op.cmpValue (FP.dcmp r10 r10) .l) = 0) => ?_)
        · rw [if_pos h] at hb
          obtain ⟨hi, hb⟩ := hb
          refine And.intro hi ?_
          let Y11 : MS := (msetL (msetL c 31 (vf_upd (c.2.2 31) a.toNatClampNeg (FP.dconst0 : UInt64))) 32 (vf_upd ((msetL c 31 (vf_upd (c.2.2 31) a.toNatClampNeg (FP.dconst0 : UInt64))).2.2 32) a.toNatClampNeg r10))
          replace hb := hb Y11 rfl
          exact hb
        · rw [if_neg h] at hb
          obtain ⟨hi, hb⟩ := hb
          refine And.intro hi ?_
          let Y12 : MS := (msetL (msetL c 31 (vf_upd (c.2.2 31) a.toNatClampNeg (FP.dconst0 : UInt64))) 32 (vf_upd ((msetL c 31 (vf_upd (c.2.2 31) a.toNatClampNeg (FP.dconst0 : UInt64))).2.2 32) a.toNatClampNeg (9218868437227405312 : UInt64)))
          replace hb := hb Y12 rfl
          exact hb
      · rw [if_neg h] at hb
        obtain ⟨hi, hb⟩ := hb
        refine And.intro hi ?_
        refine And.intro (fun (h : (Op.cmpValue (FP.dcmp r10 r10) .l) = 0) => ?_) (fun (h : ¬ (Op.cmpValue (FP.dcmp r10 r10) .l) = 0) => ?_)
        · rw [if_pos h] at hb
          obtain ⟨hi, hb⟩ := hb
          refine And.intro hi ?_
          let Y13 : MS := (msetL (msetL c 31 (vf_upd (c.2.2 31) a.toNatClampNeg r2)) 32 (vf_upd ((msetL c 31 (vf_upd (c.2.2 31) a.toNatClampNeg r2)).2.2 32) a.toNatClampNeg r10))
          replace hb := hb Y13 rfl
          exact hb
        · rw [if_neg h] at hb
          obtain ⟨hi, hb⟩ := hb
          refine And.intro hi ?_
          let Y14 : MS := (msetL (msetL c 31 (vf_upd (c.2.2 31) a.toNatClampNeg r2)) 32 (vf_upd ((msetL c 31 (vf_upd (c.2.2 31) a.toNatClampNeg r2)).2.2 32) a.toNatClampNeg (9218868437227405312 : UInt64)))
          replace hb := hb Y14 rfl
          exact hb
  · rw [if_neg h] at hb
    refine And.intro trivial (mnX4_timed ?_ hb)
    intro r15 hb
    refine And.intro trivial (mnX4_down ?_ hb)
    intro r16 hb
    obtain ⟨hi, hb⟩ := hb
    refine And.intro hi ?_
    refine And.intro (fun (h : 0 ≤ (Op.cmpValue (FP.dcmp d (FP.dconst0 : UInt64)) .g)) => ?_) (fun (h : ¬ 0 ≤ (Op.cmpValue (FP.dcmp d (FP.dconst0 : UInt64)) .g)) => ?_)
    · rw [if_pos h] at hb
      refine And.intro trivial (mnX4_timed ?_ hb)
      intro r17 hb
      refine And.intro trivial (mnX4_up ?_ hb)
      intro r18 hb
      refine And.intro (fun (h : (Op.cmpValue (FP.dcmp r16 (FP.dconst0 : UInt64)) .l) < 0) => ?_) (fun (h : ¬ (Op.cmpValue (FP.dcmp r16 (FP.dconst0 : UInt64)) .l) < 0) => ?_)
      · rw [if_pos h] at hb
        obtain ⟨hi, hb⟩ := hb
        refine And.intro hi ?_
        refine And.intro (fun (h : (Op.cmpValue (FP.dcmp r18 r18) .l) = 0) => ?_) (fun (h : ¬ (Op.cmpValue (FP.dcmp r18 r18) .l) = 0) => ?_)
        · rw [if_pos h] at hb
          obtain ⟨hi, hb⟩ := hb
          refine And.intro hi ?_
          let Y19 : MS := (msetL (msetL c 31 (vf_upd (c.2.2 31) a.toNatClampNeg (FP.dconst0 : UInt64))) 32 (vf_upd ((msetL c 31 (vf_upd (c.2.2 31) a.toNatClampNeg (FP.dconst0 : UInt64))).2.2 32) a.toNatClampNeg r18))
          replace hb := hb Y19 rfl
          exact hb
        · rw [if_neg h] at hb
          obtain ⟨hi, hb⟩ := hb
          refine And.intro hi ?_
          let Y20 : MS := (msetL (msetL c 31 (vf_upd (c.2.2 31) a.toNatClampNeg (FP.dconst0 : UInt64))) 32 (vf_upd ((msetL c 31 (vf_upd (c.2.2 31) a.toNatClampNeg (FP.dconst0 : UInt64))).2.2 32) a.toNatClampNeg (9218868437227405312 : UInt64)))
          replace hb := hb Y20 rfl
          exact hb
      · rw [if_neg h] at hb
        obtain ⟨hi, hb⟩ := hb
        refine And.intro hi ?_
        refine And.intro (fun (h : (Op.cmpValue (FP.dcmp r18 r18) .l) = 0) => ?_) (fun (h : ¬ (Op.cmpValue (FP.dcmp r18 r18) .l) = 0) => ?_)
        · rw [if_pos h] at hb
          obtain ⟨hi, hb⟩ := hb
          refine And.intro hi ?_
          let Y21 : MS := (msetL (msetL c 31 (vf_upd (c.2.2 31) a.toNatClampNeg r16)) 32 (vf_upd ((msetL c 31 (vf_upd (c.2.2 31) a.toNatClampNeg r16)).2.2 32) a.toNatClampNeg r18))
          replace hb := hb Y21 rfl
          exact hb
        · rw [if_neg h] at hb
          obtain ⟨hi, hb⟩ := hb
          refine And.intro hi ?_
          let Y22 : MS := (msetL (msetL c 31 (vf_upd (c.2.2 31) a.toNatClampNeg r16)) 32 (vf_upd ((msetL c 31 (vf_upd (c.2.2 31) a.toNatClampNeg r16)).2.2 32) a.toNatClampNeg (9218868437227405312 : UInt64)))
          replace hb := hb Y22 rfl
          exact hb
    · rw [if_neg h] at hb
      refine And.intro trivial (mnX4_timed ?_ hb)
      intro r23 hb
      refine And.intro trivial (mnX4_up ?_ hb)
      intro r24 hb
      refine And.intro (fun (h : (Op.cmpValue (FP.dcmp r16 (FP.dconst0 : UInt64)) .l) < 0) => ?_) (fun (h : ¬ (Op.cmpValue (FP.dcmp r16 (FP.dconst0 : UInt64)) .l) < 0) => ?_)
      · rw [if_pos h] at hb
        obtain ⟨hi, hb⟩ := hb
        refine And.intro hi ?_
        refine And.intro (fun (h : (Op.cmpValue (FP.dcmp r24 r24) .l) = 0) => ?_) (fun (h : ¬ (Op.cmpValue (FP.dcmp r24 r24) .l) = 0) => ?_)
        · rw [if_pos h] at hb
          obtain ⟨hi, hb⟩ := hb
          refine And.intro hi ?_
          let Y25 : MS := (msetL (msetL c 31 (vf_upd (c.2.2 31) a.toNatClampNeg (FP.dconst0 : UInt64))) 32 (vf_upd ((msetL c 31 (vf_upd (c.2.2 31) a.toNatClampNeg (FP.dconst0 : UInt64))).2.2 32) a.toNatClampNeg r24))
          replace hb := hb Y25 rfl
          exact hb
        · rw [if_neg h] at hb
          obtain ⟨hi, hb⟩ := hb
          refine And.intro hi ?_
          let Y26 : MS := (msetL (msetL c 31 (vf_upd (c.2.2 31) a.toNatClampNeg (FP.dconst0 : UInt64))) 32 (vf_upd ((msetL c 31 (vf_upd (c.2.2 31) a.toNatClampNeg (FP.dconst0 : UInt64))).2.2 32) a.toNatClampNeg (9218868437227405312 : UInt64)))
          replace hb := hb Y26 rfl
          exact hb
      · rw [if_neg h] at hb
        obtain ⟨hi, hb⟩ := hb
        refine And.intro hi ?_
        refine And.intro (fun (h : (Op.cmpValue (FP.dcmp r24 r24) .l) = 0) => ?_) (fun (h : ¬ (Op.cmpValue (FP.dcmp r24 r24) .l) = 0) => ?_)
        · rw [if_pos h] at hb
          obtain ⟨hi, hb⟩ := hb
          refine And.intro hi ?_
          let Y27 : MS := (msetL (msetL c 31 (vf_upd (c.2.2 31) a.toNatClampNeg r16)) 32 (vf_upd ((msetL c 31 (vf_upd (c.2.2 31) a.toNatClampNeg r16)).2.2 32) a.toNatClampNeg r24))
          replace hb := hb Y27 rfl
          exact hb
        · rw [if_neg h] at hb
          obtain ⟨hi, hb⟩ := hb
          refine And.intro hi ?_
          let Y28 : MS := (msetL (msetL c 31 (vf_upd (c.2.2 31) a.toNatClampNeg r16)) 32 (vf_upd ((msetL c 31 (vf_upd (c.2.2 31) a.toNatClampNeg r16)).2.2 32) a.toNatClampNeg (9218868437227405312 : UInt64)))
          replace hb := hb Y28 rfl
          exact hb
theorem rcX4_times : ∀ as σ kk, tX4_times as σ kk → ∃ a r fs, as = .ref a :: r ∧ σ[a]? = some (.inr (3, fs)) := by
  intro as σ kk h
  unfold tX4_times at h; split at h
  · obtain ⟨c, u, M, rfl, -⟩ := h
    exact ⟨_, _, _, rfl, rfl⟩
  · exact h.elim
set_option maxRecDepth 20000 in
theorem okX4_times (l : Launch) : OK l yX4_times cX4_times 10 none 5 tX4_times := by
  intro D τ ρ A as σ post h
  unfold tX4_times at h; split at h
  · rename_i a b d; obtain ⟨c, u, M, rfl, hw⟩ := h
    refine met_of (P := pgX4_times) (CE := ceX4_times) (cut := cutX4_times) (by decide) kkX4_times (coX4_times l) (Nat.le_of_ble_eq_true rfl) ?_
    intro G hG
    unfold wX4_times at hw
    refine lbX4_times_0 hG c u M a b d (mbX4_times_0 ?_  hw)
    · exact fun _ h => ⟨trivial, h⟩
  · exact h.elim
def bX4_judge_0 (c : MS) (a : Int32) (kr : MS → Prop) (kc73 : Int32 → Int32 → MS → Prop) : Prop :=
  (wX4_holds c (0 : Int32) a (fun r1 X1 => (wX4_holds X1 (1 : Int32) a (fun r2 X2 => (if r1 = 0 then
    (vp_in a 100 ∧ (vp_in a 100 ∧ (∀ Y10 : MS, Y10 = (msetL (msetA X2 30 (upd (X2.2.1 30) a.toNatClampNeg (0 : Int32))) 31 (vf_upd ((msetA X2 30 (upd (X2.2.1 30) a.toNatClampNeg (0 : Int32))).2.2 31) a.toNatClampNeg (FP.dconst1 : UInt64))) → (vp_in a 100 ∧ kc73 a (0 : Int32) (msetL Y10 32 (vf_upd (Y10.2.2 32) a.toNatClampNeg (FP.dconst1 : UInt64)))))))
  else
    (if r1 = (1 : Int32) then
      (if r2 = (1 : Int32) then
        (vp_in a 100 ∧ (vp_in a 100 ∧ (∀ Y9 : MS, Y9 = (msetL (msetA X2 30 (upd (X2.2.1 30) a.toNatClampNeg (1 : Int32))) 31 (vf_upd ((msetA X2 30 (upd (X2.2.1 30) a.toNatClampNeg (1 : Int32))).2.2 31) a.toNatClampNeg (FP.dconst1 : UInt64))) → (vp_in a 100 ∧ kc73 a (0 : Int32) (msetL Y9 32 (vf_upd (Y9.2.2 32) a.toNatClampNeg (FP.dconst1 : UInt64)))))))
      else
        (if r1 = (1 : Int32) then
          (if r2 = 0 then
            (vp_in a 100 ∧ (vp_in a 100 ∧ (∀ Y8 : MS, Y8 = (msetL (msetA X2 30 (upd (X2.2.1 30) a.toNatClampNeg (2 : Int32))) 31 (vf_upd ((msetA X2 30 (upd (X2.2.1 30) a.toNatClampNeg (2 : Int32))).2.2 31) a.toNatClampNeg (FP.dconst1 : UInt64))) → (vp_in a 100 ∧ kc73 a (0 : Int32) (msetL Y8 32 (vf_upd (Y8.2.2 32) a.toNatClampNeg (FP.dconst1 : UInt64)))))))
          else
            (vp_in a 100 ∧ (vp_in a 100 ∧ (∀ Y7 : MS, Y7 = (msetL (msetA X2 30 (upd (X2.2.1 30) a.toNatClampNeg (3 : Int32))) 31 (vf_upd ((msetA X2 30 (upd (X2.2.1 30) a.toNatClampNeg (3 : Int32))).2.2 31) a.toNatClampNeg (FP.dconst1 : UInt64))) → (vp_in a 100 ∧ kc73 a (0 : Int32) (msetL Y7 32 (vf_upd (Y7.2.2 32) a.toNatClampNeg (FP.dconst1 : UInt64))))))))
        else
          (vp_in a 100 ∧ (vp_in a 100 ∧ (∀ Y6 : MS, Y6 = (msetL (msetA X2 30 (upd (X2.2.1 30) a.toNatClampNeg (3 : Int32))) 31 (vf_upd ((msetA X2 30 (upd (X2.2.1 30) a.toNatClampNeg (3 : Int32))).2.2 31) a.toNatClampNeg (FP.dconst1 : UInt64))) → (vp_in a 100 ∧ kc73 a (0 : Int32) (msetL Y6 32 (vf_upd (Y6.2.2 32) a.toNatClampNeg (FP.dconst1 : UInt64)))))))))
    else
      (if r1 = (1 : Int32) then
        (if r2 = 0 then
          (vp_in a 100 ∧ (vp_in a 100 ∧ (∀ Y5 : MS, Y5 = (msetL (msetA X2 30 (upd (X2.2.1 30) a.toNatClampNeg (2 : Int32))) 31 (vf_upd ((msetA X2 30 (upd (X2.2.1 30) a.toNatClampNeg (2 : Int32))).2.2 31) a.toNatClampNeg (FP.dconst1 : UInt64))) → (vp_in a 100 ∧ kc73 a (0 : Int32) (msetL Y5 32 (vf_upd (Y5.2.2 32) a.toNatClampNeg (FP.dconst1 : UInt64)))))))
        else
          (vp_in a 100 ∧ (vp_in a 100 ∧ (∀ Y4 : MS, Y4 = (msetL (msetA X2 30 (upd (X2.2.1 30) a.toNatClampNeg (3 : Int32))) 31 (vf_upd ((msetA X2 30 (upd (X2.2.1 30) a.toNatClampNeg (3 : Int32))).2.2 31) a.toNatClampNeg (FP.dconst1 : UInt64))) → (vp_in a 100 ∧ kc73 a (0 : Int32) (msetL Y4 32 (vf_upd (Y4.2.2 32) a.toNatClampNeg (FP.dconst1 : UInt64))))))))
      else
        (vp_in a 100 ∧ (vp_in a 100 ∧ (∀ Y3 : MS, Y3 = (msetL (msetA X2 30 (upd (X2.2.1 30) a.toNatClampNeg (3 : Int32))) 31 (vf_upd ((msetA X2 30 (upd (X2.2.1 30) a.toNatClampNeg (3 : Int32))).2.2 31) a.toNatClampNeg (FP.dconst1 : UInt64))) → (vp_in a 100 ∧ kc73 a (0 : Int32) (msetL Y3 32 (vf_upd (Y3.2.2 32) a.toNatClampNeg (FP.dconst1 : UInt64))))))))))))))
def bX4_judge_73 (c : MS) (a : Int32) (l4 : Int32) (kr : MS → Prop) (kc73 : Int32 → Int32 → MS → Prop) : Prop :=
  (if (c.1 1) ≤ l4 then
    kr c
  else
    (vp_in (((3 : Int32) * a) + l4) 300 ∧ (vp_in (((3 : Int32) * a) + l4) 300 ∧ (vf_n64 (FP.dsub (c.2.2 29 (((3 : Int32) * a) + l4).toNatClampNeg) (c.2.2 28 (((3 : Int32) * a) + l4).toNatClampNeg)) ∧ (wX4_down (FP.dsub (c.2.2 29 (((3 : Int32) * a) + l4).toNatClampNeg) (c.2.2 28 (((3 : Int32) * a) + l4).toNatClampNeg)) (fun r11 => (wX4_up (FP.dsub (c.2.2 29 (((3 : Int32) * a) + l4).toNatClampNeg) (c.2.2 28 (((3 : Int32) * a) + l4).toNatClampNeg)) (fun r12 => (wX4_times c a r11 r12 (fun  X13 => (vp_in ((2 : Int32) + l4) 5 ∧ (if (X13.2.1 27 ((2 : Int32) + l4).toNatClampNeg) = (-5 : Int32) then
      kc73 a (l4 + (1 : Int32)) X13
    else
      (vp_in ((2 : Int32) + l4) 5 ∧ (wX4_encloseTo X13 (X13.2.1 27 ((2 : Int32) + l4).toNatClampNeg) a (fun  X14 => (vp_in ((2 : Int32) + l4) 5 ∧ (vp_in (X14.2.1 27 ((2 : Int32) + l4).toNatClampNeg) 32 ∧ (vp_in ((2 : Int32) + l4) 5 ∧ (vp_in (X14.2.1 27 ((2 : Int32) + l4).toNatClampNeg) 32 ∧ (wX4_times X14 a (X14.2.2 34 (X14.2.1 27 ((2 : Int32) + l4).toNatClampNeg).toNatClampNeg) (X14.2.2 35 (X14.2.1 27 ((2 : Int32) + l4).toNatClampNeg).toNatClampNeg) (fun  X15 => kc73 a (l4 + (1 : Int32)) X15)))))))))))))))))))))
set_option maxRecDepth 20000 in
theorem mbX4_judge_0 {c : MS} {a : Int32} {kr kq : MS → Prop} {kc73 kd73 : Int32 → Int32 → MS → Prop} (hr : ∀ X, kr X → kq X) (hc73 : ∀ z1 z4 X, kc73 z1 z4 X → kd73 z1 z4 X) (h : bX4_judge_0 c a kr kc73) : bX4_judge_0 c a kq kd73 := by
  unfold bX4_judge_0 at h ⊢
  refine mnX4_holds ?_ h
  intro r1 X1 h
  refine mnX4_holds ?_ h
  intro r2 X2 h
  by_cases hc : r1 = 0
  · rw [if_pos hc] at h ⊢
    obtain ⟨hi, h⟩ := h
    refine And.intro hi ?_
    obtain ⟨hi, h⟩ := h
    refine And.intro hi ?_
    intro Y10 eY10
    replace h := h _ eY10
    obtain ⟨hi, h⟩ := h
    refine And.intro hi ?_
    exact hc73 _ _ _ h
  · rw [if_neg hc] at h ⊢
    by_cases hc : r1 = (1 : Int32)
    · rw [if_pos hc] at h ⊢
      by_cases hc : r2 = (1 : Int32)
      · rw [if_pos hc] at h ⊢
        obtain ⟨hi, h⟩ := h
        refine And.intro hi ?_
        obtain ⟨hi, h⟩ := h
        refine And.intro hi ?_
        intro Y9 eY9
        replace h := h _ eY9
        obtain ⟨hi, h⟩ := h
        refine And.intro hi ?_
        exact hc73 _ _ _ h
      · rw [if_neg hc] at h ⊢
        by_cases hc : r1 = (1 : Int32)
        · rw [if_pos hc] at h ⊢
          by_cases hc : r2 = 0
          · rw [if_pos hc] at h ⊢
            obtain ⟨hi, h⟩ := h
            refine And.intro hi ?_
            obtain ⟨hi, h⟩ := h
            refine And.intro hi ?_
            intro Y8 eY8
            replace h := h _ eY8
            obtain ⟨hi, h⟩ := h
            refine And.intro hi ?_
            exact hc73 _ _ _ h
          · rw [if_neg hc] at h ⊢
            obtain ⟨hi, h⟩ := h
            refine And.intro hi ?_
            obtain ⟨hi, h⟩ := h
            refine And.intro hi ?_
            intro Y7 eY7
            replace h := h _ eY7
            obtain ⟨hi, h⟩ := h
            refine And.intro hi ?_
            exact hc73 _ _ _ h
        · rw [if_neg hc] at h ⊢
          obtain ⟨hi, h⟩ := h
          refine And.intro hi ?_
          obtain ⟨hi, h⟩ := h
          refine And.intro hi ?_
          intro Y6 eY6
          replace h := h _ eY6
          obtain ⟨hi, h⟩ := h
          refine And.intro hi ?_
          exact hc73 _ _ _ h
    · rw [if_neg hc] at h ⊢
      by_cases hc : r1 = (1 : Int32)
      · rw [if_pos hc] at h ⊢
        by_cases hc : r2 = 0
        · rw [if_pos hc] at h ⊢
          obtain ⟨hi, h⟩ := h
          refine And.intro hi ?_
          obtain ⟨hi, h⟩ := h
          refine And.intro hi ?_
          intro Y5 eY5
          replace h := h _ eY5
          obtain ⟨hi, h⟩ := h
          refine And.intro hi ?_
          exact hc73 _ _ _ h
        · rw [if_neg hc] at h ⊢
          obtain ⟨hi, h⟩ := h
          refine And.intro hi ?_
          obtain ⟨hi, h⟩ := h
          refine And.intro hi ?_
          intro Y4 eY4
          replace h := h _ eY4
          obtain ⟨hi, h⟩ := h
          refine And.intro hi ?_
          exact hc73 _ _ _ h
      · rw [if_neg hc] at h ⊢
        obtain ⟨hi, h⟩ := h
        refine And.intro hi ?_
        obtain ⟨hi, h⟩ := h
        refine And.intro hi ?_
        intro Y3 eY3
        replace h := h _ eY3
        obtain ⟨hi, h⟩ := h
        refine And.intro hi ?_
        exact hc73 _ _ _ h
set_option maxRecDepth 20000 in
theorem mbX4_judge_73 {c : MS} {a : Int32} {l4 : Int32} {kr kq : MS → Prop} {kc73 kd73 : Int32 → Int32 → MS → Prop} (hr : ∀ X, kr X → kq X) (hc73 : ∀ z1 z4 X, kc73 z1 z4 X → kd73 z1 z4 X) (h : bX4_judge_73 c a l4 kr kc73) : bX4_judge_73 c a l4 kq kd73 := by
  unfold bX4_judge_73 at h ⊢
  by_cases hc : (c.1 1) ≤ l4
  · rw [if_pos hc] at h ⊢
    exact hr _ h
  · rw [if_neg hc] at h ⊢
    obtain ⟨hi, h⟩ := h
    refine And.intro hi ?_
    obtain ⟨hi, h⟩ := h
    refine And.intro hi ?_
    obtain ⟨hi, h⟩ := h
    refine And.intro hi ?_
    refine mnX4_down ?_ h
    intro r11 h
    refine mnX4_up ?_ h
    intro r12 h
    refine mnX4_times ?_ h
    intro  X13 h
    obtain ⟨hi, h⟩ := h
    refine And.intro hi ?_
    by_cases hc : (X13.2.1 27 ((2 : Int32) + l4).toNatClampNeg) = (-5 : Int32)
    · rw [if_pos hc] at h ⊢
      exact hc73 _ _ _ h
    · rw [if_neg hc] at h ⊢
      obtain ⟨hi, h⟩ := h
      refine And.intro hi ?_
      refine mnX4_encloseTo ?_ h
      intro  X14 h
      obtain ⟨hi, h⟩ := h
      refine And.intro hi ?_
      obtain ⟨hi, h⟩ := h
      refine And.intro hi ?_
      obtain ⟨hi, h⟩ := h
      refine And.intro hi ?_
      obtain ⟨hi, h⟩ := h
      refine And.intro hi ?_
      refine mnX4_times ?_ h
      intro  X15 h
      exact hc73 _ _ _ h
def itX4_judge_73 (kr : MS → Prop) : Nat → Int32 → Int32 → MS → Prop
  | 0, _, _, _ => False
  | n + 1, a, l4, c => bX4_judge_73 c a l4 kr (fun z1 z4 X => itX4_judge_73 kr n z1 z4 X)
theorem miX4_judge_73 {kr kq : MS → Prop} (hr : ∀ X, kr X → kq X) : ∀ (n : Nat) (z1 : Int32) (z4 : Int32) (X : MS), itX4_judge_73 kr n z1 z4 X → itX4_judge_73 kq n z1 z4 X
  | 0, _, _, _, h => h
  | n + 1, _, _, _, h => mbX4_judge_73 hr (fun _ _ _ h => miX4_judge_73 hr n _ _ _ h) h
def wX4_judge (c : MS) (a : Int32) (kr : MS → Prop) : Prop := bX4_judge_0 c a kr (fun z1 z4 X => ∃ N, itX4_judge_73 kr N z1 z4 X)
theorem mnX4_judge {c : MS} {a : Int32} {kr kq : MS → Prop} (hr : ∀ X, kr X → kq X) (h : wX4_judge c a kr) : wX4_judge c a kq := mbX4_judge_0 hr (fun _ _ _ h => h.elim fun N h => ⟨N, miX4_judge_73 hr N _ _ _ h⟩) h
def tX4_judge : Tr := fun as σ k => match as with
  | [.ref 20, .int a] => ∃ (c : MS) (u : Nat → aE) (M : aS), σ = pre20 u ++ (wM c ++ M) ∧ wX4_judge c a (fun X => k none (pre20 u ++ (wM X ++ M)))
  | _ => False
def ceX4_judge : List (Nat × Nat × Tr) := (2 * 202 + 1, 2 + 1, tX4_holds) :: (2 * 179, 1, tX4_down) :: (2 * 84, 1, tX4_up) :: (2 * 206 + 1, 3 + 1, tX4_times) :: (2 * 199 + 1, 2 + 1, tX4_encloseTo) :: []
theorem coX4_judge (l : Launch) : CEok l yX4_judge.cls 10 ceX4_judge := ce_V (ci := 3) (n := 2) rfl (okX4_holds l) rcX4_holds (mw 811 (by decide +kernel) rfl) (mw 813 (by decide +kernel) rfl) (ms 20 (by decide +kernel) rfl) (mw 4 (by decide +kernel) rfl) (mw 814 (by decide +kernel) rfl) rfl (by decide) ⟨by decide, by decide⟩ (ce_S (okX4_down l) (mw 827 (by decide +kernel) rfl) (mw 828 (by decide +kernel) rfl) (mw 4 (by decide +kernel) rfl) (mw 829 (by decide +kernel) rfl) (by decide) ⟨by decide, by decide⟩ (ce_S (okX4_up l) (mw 830 (by decide +kernel) rfl) (mw 831 (by decide +kernel) rfl) (mw 4 (by decide +kernel) rfl) (mw 832 (by decide +kernel) rfl) (by decide) ⟨by decide, by decide⟩ (ce_V (ci := 3) (n := 3) rfl (okX4_times l) rcX4_times (mw 847 (by decide +kernel) rfl) (mw 849 (by decide +kernel) rfl) (ms 26 (by decide +kernel) rfl) (mw 4 (by decide +kernel) rfl) (mw 850 (by decide +kernel) rfl) rfl (by decide) ⟨by decide, by decide⟩ (ce_V (ci := 3) (n := 2) rfl (okX4_encloseTo l) rcX4_encloseTo (mw 815 (by decide +kernel) rfl) (mw 817 (by decide +kernel) rfl) (ms 21 (by decide +kernel) rfl) (mw 4 (by decide +kernel) rfl) (mw 818 (by decide +kernel) rfl) rfl (by decide) ⟨by decide, by decide⟩ (ce_0)))))
abbrev cutX4_judge : List (Nat × List Nat) := [(73, [0, 1, 4])]
set_option maxRecDepth 20000 in
set_option maxHeartbeats 4000000 in
theorem lbX4_judge_0 {G : Nat → LV → List Value → aS → Prop} {post : Option Value → aS → Prop} (hG : ∀ n b pc lv st σ, seg (0, fun _ => 0) pgX4_judge ceX4_judge cutX4_judge G (fun v σ => rFit none v ∧ post v σ) n b pc lv st σ → G pc lv st σ) (c : MS) (u : Nat → aE) (M : aS) (a : Int32) (hb : bX4_judge_0 c a (fun X => rFit none none ∧ post none (pre20 u ++ (wM X ++ M))) (fun z1 z4 X => G 73 [(0, .ref 20), (1, .int z1), (4, .int z4)] [] (pre20 u ++ (wM X ++ M)))) : G 0 [(0, .ref 20), (1, .int a)] [] (pre20 u ++ (wM c ++ M)) := by
  unfold bX4_judge_0 at hb
  refine hG 400 false 0 _ _ _ ?_
  refine Exists.intro c (Exists.intro u (Exists.intro M ((And.intro rfl (mnX4_holds ?_ hb)))))
  intro r1 X1 hb
  refine Exists.intro X1 (Exists.intro u (Exists.intro M ((And.intro rfl (mnX4_holds ?_ hb)))))
  intro r2 X2 hb
  refine And.intro (fun (h : ¬ r1 = 0) => ?_) (fun hq => have h : r1 = 0 := Classical.not_not.mp hq; ?_)
  · rw [if_neg h] at hb
    refine And.intro (fun (h : ¬ r1 = (1 : Int32)) => ?_) (fun hq => have h : r1 = (1 : Int32) := Classical.not_not.mp hq; ?_)
    · rw [if_neg h] at hb
      refine And.intro (fun (h : ¬ r1 = (1 : Int32)) => ?_) (fun hq => have h : r1 = (1 : Int32) := Classical.not_not.mp hq; ?_)
      · rw [if_neg h] at hb
        obtain ⟨hi, hb⟩ := hb
        refine And.intro hi ?_
        obtain ⟨hi, hb⟩ := hb
        refine And.intro hi ?_
        let Y3 : MS := (msetL (msetA X2 30 (upd (X2.2.1 30) a.toNatClampNeg (3 : Int32))) 31 (vf_upd ((msetA X2 30 (upd (X2.2.1 30) a.toNatClampNeg (3 : Int32))).2.2 31) a.toNatClampNeg (FP.dconst1 : UInt64)))
        replace hb := hb Y3 rfl
        obtain ⟨hi, hb⟩ := hb
        refine And.intro hi ?_
        exact hb
      · rw [if_pos h] at hb
        refine And.intro (fun (h : ¬ r2 = 0) => ?_) (fun hq => have h : r2 = 0 := Classical.not_not.mp hq; ?_)
        · rw [if_neg h] at hb
          obtain ⟨hi, hb⟩ := hb
          refine And.intro hi ?_
          obtain ⟨hi, hb⟩ := hb
          refine And.intro hi ?_
          let Y4 : MS := (msetL (msetA X2 30 (upd (X2.2.1 30) a.toNatClampNeg (3 : Int32))) 31 (vf_upd ((msetA X2 30 (upd (X2.2.1 30) a.toNatClampNeg (3 : Int32))).2.2 31) a.toNatClampNeg (FP.dconst1 : UInt64)))
          replace hb := hb Y4 rfl
          obtain ⟨hi, hb⟩ := hb
          refine And.intro hi ?_
          exact hb
        · rw [if_pos h] at hb
          obtain ⟨hi, hb⟩ := hb
          refine And.intro hi ?_
          obtain ⟨hi, hb⟩ := hb
          refine And.intro hi ?_
          let Y5 : MS := (msetL (msetA X2 30 (upd (X2.2.1 30) a.toNatClampNeg (2 : Int32))) 31 (vf_upd ((msetA X2 30 (upd (X2.2.1 30) a.toNatClampNeg (2 : Int32))).2.2 31) a.toNatClampNeg (FP.dconst1 : UInt64)))
          replace hb := hb Y5 rfl
          obtain ⟨hi, hb⟩ := hb
          refine And.intro hi ?_
          exact hb
    · rw [if_pos h] at hb
      refine And.intro (fun (h : ¬ r2 = (1 : Int32)) => ?_) (fun hq => have h : r2 = (1 : Int32) := Classical.not_not.mp hq; ?_)
      · rw [if_neg h] at hb
        refine And.intro (fun (h : ¬ r1 = (1 : Int32)) => ?_) (fun hq => have h : r1 = (1 : Int32) := Classical.not_not.mp hq; ?_)
        · rw [if_neg h] at hb
          obtain ⟨hi, hb⟩ := hb
          refine And.intro hi ?_
          obtain ⟨hi, hb⟩ := hb
          refine And.intro hi ?_
          let Y6 : MS := (msetL (msetA X2 30 (upd (X2.2.1 30) a.toNatClampNeg (3 : Int32))) 31 (vf_upd ((msetA X2 30 (upd (X2.2.1 30) a.toNatClampNeg (3 : Int32))).2.2 31) a.toNatClampNeg (FP.dconst1 : UInt64)))
          replace hb := hb Y6 rfl
          obtain ⟨hi, hb⟩ := hb
          refine And.intro hi ?_
          exact hb
        · rw [if_pos h] at hb
          refine And.intro (fun (h : ¬ r2 = 0) => ?_) (fun hq => have h : r2 = 0 := Classical.not_not.mp hq; ?_)
          · rw [if_neg h] at hb
            obtain ⟨hi, hb⟩ := hb
            refine And.intro hi ?_
            obtain ⟨hi, hb⟩ := hb
            refine And.intro hi ?_
            let Y7 : MS := (msetL (msetA X2 30 (upd (X2.2.1 30) a.toNatClampNeg (3 : Int32))) 31 (vf_upd ((msetA X2 30 (upd (X2.2.1 30) a.toNatClampNeg (3 : Int32))).2.2 31) a.toNatClampNeg (FP.dconst1 : UInt64)))
            replace hb := hb Y7 rfl
            obtain ⟨hi, hb⟩ := hb
            refine And.intro hi ?_
            exact hb
          · rw [if_pos h] at hb
            obtain ⟨hi, hb⟩ := hb
            refine And.intro hi ?_
            obtain ⟨hi, hb⟩ := hb
            refine And.intro hi ?_
            let Y8 : MS := (msetL (msetA X2 30 (upd (X2.2.1 30) a.toNatClampNeg (2 : Int32))) 31 (vf_upd ((msetA X2 30 (upd (X2.2.1 30) a.toNatClampNeg (2 : Int32))).2.2 31) a.toNatClampNeg (FP.dconst1 : UInt64)))
            replace hb := hb Y8 rfl
            obtain ⟨hi, hb⟩ := hb
            refine And.intro hi ?_
            exact hb
      · rw [if_pos h] at hb
        obtain ⟨hi, hb⟩ := hb
        refine And.intro hi ?_
        obtain ⟨hi, hb⟩ := hb
        refine And.intro hi ?_
        let Y9 : MS := (msetL (msetA X2 30 (upd (X2.2.1 30) a.toNatClampNeg (1 : Int32))) 31 (vf_upd ((msetA X2 30 (upd (X2.2.1 30) a.toNatClampNeg (1 : Int32))).2.2 31) a.toNatClampNeg (FP.dconst1 : UInt64)))
        replace hb := hb Y9 rfl
        obtain ⟨hi, hb⟩ := hb
        refine And.intro hi ?_
        exact hb
  · rw [if_pos h] at hb
    obtain ⟨hi, hb⟩ := hb
    refine And.intro hi ?_
    obtain ⟨hi, hb⟩ := hb
    refine And.intro hi ?_
    let Y10 : MS := (msetL (msetA X2 30 (upd (X2.2.1 30) a.toNatClampNeg (0 : Int32))) 31 (vf_upd ((msetA X2 30 (upd (X2.2.1 30) a.toNatClampNeg (0 : Int32))).2.2 31) a.toNatClampNeg (FP.dconst1 : UInt64)))
    replace hb := hb Y10 rfl
    obtain ⟨hi, hb⟩ := hb
    refine And.intro hi ?_
    exact hb
set_option maxRecDepth 20000 in
set_option maxHeartbeats 4000000 in
theorem lbX4_judge_73 {G : Nat → LV → List Value → aS → Prop} {post : Option Value → aS → Prop} (hG : ∀ n b pc lv st σ, seg (0, fun _ => 0) pgX4_judge ceX4_judge cutX4_judge G (fun v σ => rFit none v ∧ post v σ) n b pc lv st σ → G pc lv st σ) (c : MS) (u : Nat → aE) (M : aS) (a : Int32) (l4 : Int32) (hb : bX4_judge_73 c a l4 (fun X => rFit none none ∧ post none (pre20 u ++ (wM X ++ M))) (fun z1 z4 X => G 73 [(0, .ref 20), (1, .int z1), (4, .int z4)] [] (pre20 u ++ (wM X ++ M)))) : G 73 [(0, .ref 20), (1, .int a), (4, .int l4)] [] (pre20 u ++ (wM c ++ M)) := by
  unfold bX4_judge_73 at hb
  refine hG 400 false 73 _ _ _ ?_
  refine And.intro (fun (h : (c.1 1) ≤ l4) => ?_) (fun (h : ¬ (c.1 1) ≤ l4) => ?_)
  · rw [if_pos h] at hb
    exact hb
  · rw [if_neg h] at hb
    obtain ⟨hi, hb⟩ := hb
    refine And.intro hi ?_
    obtain ⟨hi, hb⟩ := hb
    refine And.intro hi ?_
    obtain ⟨hi, hb⟩ := hb
    refine And.intro hi ?_
    refine And.intro trivial (mnX4_down ?_ hb)
    intro r11 hb
    refine And.intro trivial (mnX4_up ?_ hb)
    intro r12 hb
    refine Exists.intro c (Exists.intro u (Exists.intro M ((And.intro rfl (mnX4_times ?_ hb)))))
    intro  X13 hb
    obtain ⟨hi, hb⟩ := hb
    refine And.intro hi ?_
    refine And.intro (fun (h : (X13.2.1 27 ((2 : Int32) + l4).toNatClampNeg) = (-5 : Int32)) => ?_) (fun (h : ¬ (X13.2.1 27 ((2 : Int32) + l4).toNatClampNeg) = (-5 : Int32)) => ?_)
    · rw [if_pos h] at hb
      exact hb
    · rw [if_neg h] at hb
      obtain ⟨hi, hb⟩ := hb
      refine And.intro hi ?_
      refine Exists.intro X13 (Exists.intro u (Exists.intro M ((And.intro rfl (mnX4_encloseTo ?_ hb)))))
      intro  X14 hb
      obtain ⟨hi, hb⟩ := hb
      refine And.intro hi ?_
      obtain ⟨hi, hb⟩ := hb
      refine And.intro hi ?_
      obtain ⟨hi, hb⟩ := hb
      refine And.intro hi ?_
      obtain ⟨hi, hb⟩ := hb
      refine And.intro hi ?_
      refine Exists.intro X14 (Exists.intro u (Exists.intro M ((And.intro rfl (mnX4_times ?_ hb)))))
      intro  X15 hb
      exact hb
theorem giX4_judge_73 {G : Nat → LV → List Value → aS → Prop} {post : Option Value → aS → Prop} (hG : ∀ n b pc lv st σ, seg (0, fun _ => 0) pgX4_judge ceX4_judge cutX4_judge G (fun v σ => rFit none v ∧ post v σ) n b pc lv st σ → G pc lv st σ) (u : Nat → aE) (M : aS) : ∀ (n : Nat) (z1 : Int32) (z4 : Int32) (X : MS), itX4_judge_73 (fun X => rFit none none ∧ post none (pre20 u ++ (wM X ++ M))) n z1 z4 X → G 73 [(0, .ref 20), (1, .int z1), (4, .int z4)] [] (pre20 u ++ (wM X ++ M))
  | 0, _, _, _, h => h.elim
  | n + 1, _, _, _, h => lbX4_judge_73 hG _ u M _ _ (mbX4_judge_73 (fun _ h => h) (fun _ _ _ h => giX4_judge_73 hG u M n _ _ _ h) h)
theorem rcX4_judge : ∀ as σ kk, tX4_judge as σ kk → ∃ a r fs, as = .ref a :: r ∧ σ[a]? = some (.inr (3, fs)) := by
  intro as σ kk h
  unfold tX4_judge at h; split at h
  · obtain ⟨c, u, M, rfl, -⟩ := h
    exact ⟨_, _, _, rfl, rfl⟩
  · exact h.elim
set_option maxRecDepth 20000 in
theorem okX4_judge (l : Launch) : OK l yX4_judge cX4_judge 7 none 10 tX4_judge := by
  intro D τ ρ A as σ post h
  unfold tX4_judge at h; split at h
  · rename_i a; obtain ⟨c, u, M, rfl, hw⟩ := h
    refine met_of (P := pgX4_judge) (CE := ceX4_judge) (cut := cutX4_judge) (by decide) kkX4_judge (coX4_judge l) (Nat.le_of_ble_eq_true rfl) ?_
    intro G hG
    unfold wX4_judge at hw
    refine lbX4_judge_0 hG c u M a (mbX4_judge_0 ?_ ?_ hw)
    · exact fun _ h => ⟨trivial, h⟩
    · intro _ _ _ ⟨N, h⟩; exact giX4_judge_73 hG u M N _ _ _ (miX4_judge_73 (fun _ h => ⟨trivial, h⟩) N _ _ _ h)
  · exact h.elim
