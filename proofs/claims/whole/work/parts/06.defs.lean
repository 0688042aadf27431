/-! what each method does, as a pure value -/
def f_X11_tellsHouse__0 (σ : St) (x1 x2 x3 : Int32) : Ot :=
 gd (x1) 16 (nm (ps σ 10 (x1) (x2)) (fun s4 =>
 gd (x1) 16 (nm (ps s4 11 (x1) (x3)) (fun s5 =>
 some ((0 : Int32), s5)))))
def f_X11_tellsNews__0 (σ : St) (x1 x2 x3 : Int32) : Ot :=
 gd (((3 : Int32) * (σ 0 24))) 15 (nm (ps σ 12 (((3 : Int32) * (σ 0 24))) (x1)) (fun s4 =>
 gd ((((3 : Int32) * (s4 0 24)) + (1 : Int32))) 15 (nm (ps s4 12 ((((3 : Int32) * (s4 0 24)) + (1 : Int32))) (x2)) (fun s5 =>
 gd ((((3 : Int32) * (s5 0 24)) + (2 : Int32))) 15 (nm (ps s5 12 ((((3 : Int32) * (s5 0 24)) + (2 : Int32))) (x3)) (fun s6 =>
 nm (pf s6 0 24 (((s6 0 24) + (1 : Int32)))) (fun s7 =>
 some ((0 : Int32), s7))))))))
def f_X11_in (σ : St) (x1 x2 x3 : Int32) : Ot :=
 jq0 (fun s5 =>
 some ((0 : Int32), s5)) (fun k4 =>
 (if x1 < x2 then
 k4 σ
 else
 (if x3 < x1 then
 k4 σ
 else
 some ((1 : Int32), σ))))
def f_X11_has (σ : St) (x1 x2 : Int32) : Ot :=
 (if ((x1 >>> (x2 &&& 31)) &&& (1 : Int32)) = (1 : Int32) then
 some ((1 : Int32), σ)
 else
 some ((0 : Int32), σ))
def f_X11_bits (σ : St) (x1 : Int32) : Ot :=
 lq2 (fun k2 s5 x3 x4 =>
 (if (16 : Int32) ≤ x4 then
 some (x3, s5)
 else
 nm ((x3 + ((x1 >>> (x4 &&& 31)) &&& (1 : Int32)))) (fun x6 =>
 nm (x4 + (1 : Int32)) (fun x7 =>
 k2 s5 x6 x7)))) 100000 σ (0 : Int32) (0 : Int32)
def f_X11_isHouse__0 (σ : St) (x1 : Int32) : Ot :=
 bnd (f_X11_in σ x1 (0 : Int32) (((σ 0 2) - (1 : Int32)))) (fun r2 s3 =>
 zg r2 (some (r2, s3)))
def f_X11_isNews__0 (σ : St) (x1 : Int32) : Ot :=
 bnd (f_X11_in σ x1 (0 : Int32) (((σ 0 4) - (1 : Int32)))) (fun r2 s3 =>
 zg r2 (some (r2, s3)))
def f_X11_write__0 (σ : St) (x1 : Int32) : Ot :=
 bnd (f_X11_in σ x1 (32 : Int32) (126 : Int32)) (fun r2 s3 =>
 (if r2 = (0 : Int32) then
 some ((-1 : Int32), s3)
 else
 (if (s3 0 16) = (200 : Int32) then
 some ((-3 : Int32), s3)
 else
 gd ((s3 0 16)) 200 (nm (ps s3 8 ((s3 0 16)) (x1)) (fun s4 =>
 nm (pf s4 0 16 (((s4 0 16) + (1 : Int32)))) (fun s5 =>
 some ((s5 0 16), s5)))))))
def f_X11_wipe__0 (σ : St) : Ot :=
 nm ((σ 0 16)) (fun x1 =>
 nm (pf σ 0 16 (0 : Int32)) (fun s2 =>
 some (x1, s2)))
def f_X11_letterAt__0 (σ : St) (x1 : Int32) : Ot :=
 (if (σ 0 16) ≤ x1 then
 some ((-1 : Int32), σ)
 else
 gd (x1) 200 (some ((σ 8 (Int32.toNatClampNeg x1)), σ)))
def f_X11_isFigure (σ : St) (x1 : Int32) : Ot :=
 bnd (f_X11_in σ x1 (48 : Int32) (57 : Int32)) (fun r2 s3 =>
 zg r2 (some (r2, s3)))
def f_X11_readNumbers__0 (σ : St) (x1 : Int32) : Ot :=
 lq1 (fun k2 s4 x3 =>
 (if x1 ≤ x3 then
 some ((1 : Int32), s4)
 else
 bnd (f_X11_letterAt__0 s4 ((s4 0 17))) (fun r5 s6 =>
 bnd (f_X11_isFigure s6 r5) (fun r7 s8 =>
 (if r7 = (0 : Int32) then
 some ((0 : Int32), s8)
 else
 jq0 (fun s10 =>
 jq2 (fun s14 x12 x13 =>
 (if x13 = x12 then
 nm (pf s14 0 17 (((s14 0 17) + (1 : Int32)))) (fun s15 =>
 nm (x3 + (1 : Int32)) (fun x16 =>
 k2 s15 x16))
 else
 some ((0 : Int32), s14))) (fun k11 =>
 bnd (f_X11_letterAt__0 s10 ((s10 0 17))) (fun r17 s18 =>
 (if (x1 - (1 : Int32)) ≤ x3 then
 k11 s18 (59 : Int32) r17
 else
 k11 s18 (44 : Int32) r17)))) (fun k9 =>
 bnd (f_X11_letterAt__0 s8 ((s8 0 17))) (fun r19 s20 =>
 gd (x3) 3 (nm (ps s20 9 (x3) ((r19 - (48 : Int32)))) (fun s21 =>
 nm (pf s21 0 17 (((s21 0 17) + (1 : Int32)))) (fun s22 =>
 bnd (f_X11_letterAt__0 s22 ((s22 0 17))) (fun r23 s24 =>
 bnd (f_X11_isFigure s24 r23) (fun r25 s26 =>
 (if r25 = (0 : Int32) then
 k9 s26
 else
 gd (x3) 3 (bnd (f_X11_letterAt__0 s26 ((s26 0 17))) (fun r27 s28 =>
 gd (x3) 3 (nm (ps s28 9 (x3) (((((10 : Int32) * (s26 9 (Int32.toNatClampNeg x3))) + r27) - (48 : Int32)))) (fun s29 =>
 nm (pf s29 0 17 (((s29 0 17) + (1 : Int32)))) (fun s30 =>
 k9 s30)))))))))))))))))) 100000 σ (0 : Int32)
def f_X11_isTold__0 (σ : St) (x1 x2 x3 : Int32) : Ot :=
 gd (x1) 3 (bnd (f_X11_in σ ((σ 9 (Int32.toNatClampNeg x1))) x2 x3) (fun r4 s5 =>
 zg r4 (some (r4, s5))))
def f_X11_clearTold__0 (σ : St) : Ot :=
 nm (pf σ 0 19 (0 : Int32)) (fun s1 =>
 nm (pf s1 0 20 (3 : Int32)) (fun s2 =>
 nm (pf s2 0 21 (4 : Int32)) (fun s3 =>
 lq1 (fun k4 s6 x5 =>
 (if (16 : Int32) ≤ x5 then
 nm (pf s6 0 24 (0 : Int32)) (fun s7 =>
 nm (pf s7 0 26 (0 : Int32)) (fun s8 =>
 some ((0 : Int32), s8)))
 else
 gd (x5) 16 (nm (ps s6 10 (x5) ((0 : Int32))) (fun s9 =>
 gd (x5) 16 (nm (ps s9 11 (x5) ((2 : Int32))) (fun s10 =>
 nm (x5 + (1 : Int32)) (fun x11 =>
 k4 s10 x11))))))) 100000 s3 (0 : Int32))))
def f_X11_lastTold__0 (σ : St) : Ot :=
 some ((((σ 0 20) * (σ 0 21)) - (1 : Int32)), σ)
def f_X11_readGridOf__0 (σ : St) : Ot :=
 (if (σ 0 19) = (0 : Int32) then
 bnd (f_X11_readNumbers__0 σ (2 : Int32)) (fun r1 s2 =>
 (if r1 = (0 : Int32) then
 some ((0 : Int32), s2)
 else
 bnd (f_X11_isTold__0 s2 (0 : Int32) (1 : Int32) (4 : Int32)) (fun r3 s4 =>
 (if r3 = (0 : Int32) then
 some ((0 : Int32), s4)
 else
 bnd (f_X11_isTold__0 s4 (1 : Int32) (1 : Int32) (4 : Int32)) (fun r5 s6 =>
 (if r5 = (0 : Int32) then
 some ((0 : Int32), s6)
 else
 gd ((0 : Int32)) 3 (nm (pf s6 0 20 ((s6 9 (Int32.toNatClampNeg (0 : Int32))))) (fun s7 =>
 gd ((1 : Int32)) 3 (nm (pf s7 0 21 ((s7 9 (Int32.toNatClampNeg (1 : Int32))))) (fun s8 =>
 some ((1 : Int32), s8)))))))))))
 else
 some ((0 : Int32), σ))
def f_X11_readHouseOf__0 (σ : St) : Ot :=
 bnd (f_X11_readNumbers__0 σ (3 : Int32)) (fun r1 s2 =>
 (if r1 = (0 : Int32) then
 some ((0 : Int32), s2)
 else
 bnd (f_X11_lastTold__0 s2) (fun r3 s4 =>
 bnd (f_X11_isTold__0 s4 (0 : Int32) (0 : Int32) r3) (fun r5 s6 =>
 (if r5 = (0 : Int32) then
 some ((0 : Int32), s6)
 else
 bnd (f_X11_isTold__0 s6 (1 : Int32) (0 : Int32) (4 : Int32)) (fun r7 s8 =>
 (if r7 = (0 : Int32) then
 some ((0 : Int32), s8)
 else
 bnd (f_X11_isTold__0 s8 (2 : Int32) (0 : Int32) (6 : Int32)) (fun r9 s10 =>
 (if r9 = (0 : Int32) then
 some ((0 : Int32), s10)
 else
 gd ((0 : Int32)) 3 (gd ((1 : Int32)) 3 (gd ((2 : Int32)) 3 (bnd (f_X11_tellsHouse__0 s10 ((s10 9 (Int32.toNatClampNeg (0 : Int32)))) ((s10 9 (Int32.toNatClampNeg (1 : Int32)))) ((s10 9 (Int32.toNatClampNeg (2 : Int32))))) (fun r11 s12 =>
 some ((1 : Int32), s12))))))))))))))
def f_X11_readNewsOf__0 (σ : St) : Ot :=
 (if (σ 0 24) = (5 : Int32) then
 some ((0 : Int32), σ)
 else
 bnd (f_X11_readNumbers__0 σ (3 : Int32)) (fun r1 s2 =>
 (if r1 = (0 : Int32) then
 some ((0 : Int32), s2)
 else
 bnd (f_X11_isTold__0 s2 (0 : Int32) (0 : Int32) (2 : Int32)) (fun r3 s4 =>
 (if r3 = (0 : Int32) then
 some ((0 : Int32), s4)
 else
 bnd (f_X11_isTold__0 s4 (1 : Int32) (1 : Int32) (4 : Int32)) (fun r5 s6 =>
 (if r5 = (0 : Int32) then
 some ((0 : Int32), s6)
 else
 bnd (f_X11_lastTold__0 s6) (fun r7 s8 =>
 bnd (f_X11_isTold__0 s8 (2 : Int32) (0 : Int32) r7) (fun r9 s10 =>
 (if r9 = (0 : Int32) then
 some ((0 : Int32), s10)
 else
 gd ((0 : Int32)) 3 (gd ((1 : Int32)) 3 (gd ((2 : Int32)) 3 (bnd (f_X11_tellsNews__0 s10 ((s10 9 (Int32.toNatClampNeg (0 : Int32)))) ((s10 9 (Int32.toNatClampNeg (1 : Int32)))) ((s10 9 (Int32.toNatClampNeg (2 : Int32))))) (fun r11 s12 =>
 some ((1 : Int32), s12)))))))))))))))
def f_X11_readWindOf__0 (σ : St) : Ot :=
 (if (σ 0 26) = (8 : Int32) then
 some ((0 : Int32), σ)
 else
 bnd (f_X11_readNumbers__0 σ (1 : Int32)) (fun r1 s2 =>
 (if r1 = (0 : Int32) then
 some ((0 : Int32), s2)
 else
 bnd (f_X11_isTold__0 s2 (0 : Int32) (0 : Int32) (4 : Int32)) (fun r3 s4 =>
 (if r3 = (0 : Int32) then
 some ((0 : Int32), s4)
 else
 gd ((0 : Int32)) 3 (gd ((s4 0 26)) 8 (nm (ps s4 13 ((s4 0 26)) ((s4 9 (Int32.toNatClampNeg (0 : Int32))))) (fun s5 =>
 nm (pf s5 0 26 (((s5 0 26) + (1 : Int32)))) (fun s6 =>
 some ((1 : Int32), s6))))))))))
def f_X11_readItem__0 (σ : St) : Ot :=
 bnd (f_X11_letterAt__0 σ ((σ 0 17))) (fun r1 s2 =>
 nm (pf s2 0 17 (((s2 0 17) + (1 : Int32)))) (fun s3 =>
 (if r1 = (103 : Int32) then
 bnd (f_X11_readGridOf__0 s3) (fun r11 s12 =>
 zg r11 (some (r11, s12)))
 else
 nm (pf s3 0 19 (1 : Int32)) (fun s4 =>
 (if r1 = (104 : Int32) then
 bnd (f_X11_readHouseOf__0 s4) (fun r5 s6 =>
 zg r5 (some (r5, s6)))
 else
 (if r1 = (110 : Int32) then
 bnd (f_X11_readNewsOf__0 s4) (fun r7 s8 =>
 zg r7 (some (r7, s8)))
 else
 (if r1 = (119 : Int32) then
 bnd (f_X11_readWindOf__0 s4) (fun r9 s10 =>
 zg r9 (some (r9, s10)))
 else
 some ((0 : Int32), s4))))))))
def f_X11_fault__0 (σ : St) : Ot :=
 nm (pf σ 0 17 (0 : Int32)) (fun s1 =>
 bnd (f_X11_clearTold__0 s1) (fun r2 s3 =>
 lq0 (fun k4 s5 =>
 (if (s5 0 16) ≤ (s5 0 17) then
 some ((-4 : Int32), s5)
 else
 nm ((s5 0 17)) (fun x6 =>
 bnd (f_X11_readItem__0 s5) (fun r7 s8 =>
 (if r7 = (0 : Int32) then
 some (x6, s8)
 else
 k4 s8))))) 100000 s3))
def f_X11_copies__3_13 (σ : St) (x1 x2 x3 : Int32) : Ot :=
 lq1 (fun k4 s6 x5 =>
 (if x3 ≤ x5 then
 some ((0 : Int32), s6)
 else
 gd ((x2 + x5)) 8 (gd ((x1 + x5)) 8 (nm (ps s6 3 ((x1 + x5)) ((s6 13 (Int32.toNatClampNeg (x2 + x5))))) (fun s7 =>
 nm (x5 + (1 : Int32)) (fun x8 =>
 k4 s7 x8)))))) 100000 σ (0 : Int32)
def f_X11_copies__4_11 (σ : St) (x1 x2 x3 : Int32) : Ot :=
 lq1 (fun k4 s6 x5 =>
 (if x3 ≤ x5 then
 some ((0 : Int32), s6)
 else
 gd ((x2 + x5)) 16 (gd ((x1 + x5)) 22 (nm (ps s6 4 ((x1 + x5)) ((s6 11 (Int32.toNatClampNeg (x2 + x5))))) (fun s7 =>
 nm (x5 + (1 : Int32)) (fun x8 =>
 k4 s7 x8)))))) 100000 σ (0 : Int32)
def f_X11_copies__1_10 (σ : St) (x1 x2 x3 : Int32) : Ot :=
 lq1 (fun k4 s6 x5 =>
 (if x3 ≤ x5 then
 some ((0 : Int32), s6)
 else
 gd ((x2 + x5)) 16 (gd ((x1 + x5)) 16 (nm (ps s6 1 ((x1 + x5)) ((s6 10 (Int32.toNatClampNeg (x2 + x5))))) (fun s7 =>
 nm (x5 + (1 : Int32)) (fun x8 =>
 k4 s7 x8)))))) 100000 σ (0 : Int32)
def f_X11_copies__2_12 (σ : St) (x1 x2 x3 : Int32) : Ot :=
 lq1 (fun k4 s6 x5 =>
 (if x3 ≤ x5 then
 some ((0 : Int32), s6)
 else
 gd ((x2 + x5)) 15 (gd ((x1 + x5)) 15 (nm (ps s6 2 ((x1 + x5)) ((s6 12 (Int32.toNatClampNeg (x2 + x5))))) (fun s7 =>
 nm (x5 + (1 : Int32)) (fun x8 =>
 k4 s7 x8)))))) 100000 σ (0 : Int32)
def f_X11_settles__0 (σ : St) : Ot :=
 jq1 (fun s3 x2 =>
 nm (pf s3 0 6 x2) (fun s4 =>
 gd ((0 : Int32)) 8 (nm (ps s4 3 ((0 : Int32)) ((0 : Int32))) (fun s5 =>
 bnd (f_X11_copies__3_13 s5 (0 : Int32) (0 : Int32) ((s5 0 26))) (fun r6 s7 =>
 lq1 (fun k8 s10 x9 =>
 (if (22 : Int32) ≤ x9 then
 bnd (f_X11_copies__4_11 s10 (1 : Int32) (0 : Int32) (16 : Int32)) (fun r11 s12 =>
 lq1 (fun k13 s15 x14 =>
 (if (s15 0 4) ≤ x14 then
 nm (pf s15 0 9 (0 : Int32)) (fun s16 =>
 nm (pf s16 0 11 (0 : Int32)) (fun s17 =>
 nm (pf s17 0 13 (0 : Int32)) (fun s18 =>
 some ((0 : Int32), s18))))
 else
 gd ((((3 : Int32) * x14) + (2 : Int32))) 15 (gd (((17 : Int32) + x14)) 22 (nm (ps s15 4 (((17 : Int32) + x14)) (((1 : Int32) <<< ((s15 2 (Int32.toNatClampNeg (((3 : Int32) * x14) + (2 : Int32)))) &&& 31)))) (fun s19 =>
 nm (x14 + (1 : Int32)) (fun x20 =>
 k13 s19 x20)))))) 100000 s12 (0 : Int32))
 else
 gd (x9) 22 (nm (ps s10 4 (x9) ((0 : Int32))) (fun s21 =>
 nm (x9 + (1 : Int32)) (fun x22 =>
 k8 s21 x22))))) 100000 s7 (0 : Int32)))))) (fun k1 =>
 nm (pf σ 0 0 ((σ 0 20))) (fun s23 =>
 nm (pf s23 0 1 ((s23 0 21))) (fun s24 =>
 nm (pf s24 0 2 (((s24 0 0) * (s24 0 1)))) (fun s25 =>
 bnd (f_X11_copies__1_10 s25 (0 : Int32) (0 : Int32) (16 : Int32)) (fun r26 s27 =>
 nm (pf s27 0 4 ((s27 0 24))) (fun s28 =>
 bnd (f_X11_copies__2_12 s28 (0 : Int32) (0 : Int32) (15 : Int32)) (fun r29 s30 =>
 (if (s30 0 26) = (0 : Int32) then
 k1 s30 (1 : Int32)
 else
 k1 s30 ((s30 0 26))))))))))
def f_X11_lay__0 (σ : St) : Ot :=
 bnd (f_X11_fault__0 σ) (fun r1 s2 =>
 (if r1 = (-4 : Int32) then
 (if (s2 0 24) = (0 : Int32) then
 some ((-2 : Int32), s2)
 else
 bnd (f_X11_settles__0 s2) (fun r3 s4 =>
 some ((s4 0 2), s4)))
 else
 some ((-2 : Int32), s2)))
def f_X11_copies__14_4 (σ : St) (x1 x2 x3 : Int32) : Ot :=
 lq1 (fun k4 s6 x5 =>
 (if x3 ≤ x5 then
 some ((0 : Int32), s6)
 else
 gd ((x2 + x5)) 22 (gd ((x1 + x5)) 22 (nm (ps s6 14 ((x1 + x5)) ((s6 4 (Int32.toNatClampNeg (x2 + x5))))) (fun s7 =>
 nm (x5 + (1 : Int32)) (fun x8 =>
 k4 s7 x8)))))) 100000 σ (0 : Int32)
def f_X11_asItIs__0 (σ : St) : Ot :=
 bnd (f_X11_copies__14_4 σ (0 : Int32) (0 : Int32) (22 : Int32)) (fun r1 s2 =>
 nm (pf s2 0 29 (-4 : Int32)) (fun s3 =>
 some ((0 : Int32), s3)))
def f_X11_asItIsOf__0 (σ : St) (x1 : Int32) : Ot :=
 bnd (f_X11_asItIs__0 σ) (fun r2 s3 =>
 nm (pf s3 0 29 x1) (fun s4 =>
 some ((0 : Int32), s4)))
def f_X11_windOf__0 (σ : St) (x1 : Int32) : Ot :=
 nz ((σ 0 6)) (gd ((x1 - x1 / (σ 0 6) * (σ 0 6))) 8 (some ((σ 3 (Int32.toNatClampNeg (x1 - x1 / (σ 0 6) * (σ 0 6)))), σ)))
def f_X11_beside__0 (σ : St) (x1 x2 : Int32) : Ot :=
 jq2 (fun s6 x4 x5 =>
 jq3 (fun s11 x8 x9 x10 =>
 jq0 (fun s13 =>
 some ((-4 : Int32), s13)) (fun k12 =>
 nm ((x10 + x9)) (fun x14 =>
 bnd (f_X11_in s11 x8 (0 : Int32) (((s11 0 0) - (1 : Int32)))) (fun r15 s16 =>
 (if r15 = (0 : Int32) then
 k12 s16
 else
 bnd (f_X11_in s16 x14 (0 : Int32) (((s16 0 1) - (1 : Int32)))) (fun r17 s18 =>
 (if r17 = (0 : Int32) then
 k12 s18
 else
 some (((x8 * (s18 0 1)) + x14), s18)))))))) (fun k7 =>
 nm ((x5 + x4)) (fun x19 =>
 nz ((s6 0 1)) ((if x2 = (2 : Int32) then
 k7 s6 x19 (1 : Int32) ((x1 - x1 / (s6 0 1) * (s6 0 1)))
 else
 (if x2 = (4 : Int32) then
 k7 s6 x19 (-1 : Int32) ((x1 - x1 / (s6 0 1) * (s6 0 1)))
 else
 k7 s6 x19 (0 : Int32) ((x1 - x1 / (s6 0 1) * (s6 0 1))))))))) (fun k3 =>
 nz ((σ 0 1)) ((if x2 = (3 : Int32) then
 k3 σ (1 : Int32) ((x1 / (σ 0 1)))
 else
 (if x2 = (1 : Int32) then
 k3 σ (-1 : Int32) ((x1 / (σ 0 1)))
 else
 k3 σ (0 : Int32) ((x1 / (σ 0 1)))))))
def f_X11_letsOut__0 (σ : St) (x1 x2 : Int32) : Ot :=
 jq0 (fun s4 =>
 some ((0 : Int32), s4)) (fun k3 =>
 gd (x1) 16 ((if (σ 1 (Int32.toNatClampNeg x1)) = (3 : Int32) then
 k3 σ
 else
 jq0 (fun s6 =>
 some ((1 : Int32), s6)) (fun k5 =>
 gd (x1) 16 ((if (σ 1 (Int32.toNatClampNeg x1)) = (4 : Int32) then
 gd (((3 : Int32) * x2)) 15 ((if (σ 2 (Int32.toNatClampNeg ((3 : Int32) * x2))) = (2 : Int32) then
 k3 σ
 else
 k5 σ))
 else
 k5 σ))))))
def f_X11_letsIn__0 (σ : St) (x1 x2 x3 : Int32) : Ot :=
 jq2 (fun s7 x5 x6 =>
 jq2 (fun s11 x9 x10 =>
 jq0 (fun s13 =>
 some ((0 : Int32), s13)) (fun k12 =>
 nm ((x10 + x9)) (fun x14 =>
 gd (((1 : Int32) + x2)) 22 ((if (s11 14 (Int32.toNatClampNeg ((1 : Int32) + x2))) ≤ (0 : Int32) then
 k12 s11
 else
 gd (((1 : Int32) + x2)) 22 ((if (s11 14 (Int32.toNatClampNeg ((1 : Int32) + x2))) < x14 then
 k12 s11
 else
 some ((1 : Int32), s11)))))))) (fun k8 =>
 gd (x2) 16 ((if (s7 1 (Int32.toNatClampNeg x2)) = (2 : Int32) then
 k8 s7 (1 : Int32) ((x6 - x5))
 else
 k8 s7 (0 : Int32) ((x6 - x5)))))) (fun k4 =>
 gd ((((3 : Int32) * x3) + (1 : Int32))) 15 (gd (x1) 16 ((if (σ 1 (Int32.toNatClampNeg x1)) = (1 : Int32) then
 k4 σ (1 : Int32) ((σ 2 (Int32.toNatClampNeg (((3 : Int32) * x3) + (1 : Int32)))))
 else
 k4 σ (0 : Int32) ((σ 2 (Int32.toNatClampNeg (((3 : Int32) * x3) + (1 : Int32)))))))))
def f_X11_blowsFrom__0 (σ : St) (x1 x2 x3 x4 : Int32) : Ot :=
 bnd (f_X11_beside__0 σ x1 x3) (fun r5 s6 =>
 (if r5 < (0 : Int32) then
 some ((0 : Int32), s6)
 else
 bnd (f_X11_has s6 x4 r5) (fun r7 s8 =>
 (if r7 = (0 : Int32) then
 bnd (f_X11_letsIn__0 s8 x1 r5 x2) (fun r9 s10 =>
 (if r9 = (0 : Int32) then
 some ((0 : Int32), s10)
 else
 gd (((17 : Int32) + x2)) 22 (gd (((17 : Int32) + x2)) 22 (nm (ps s10 14 (((17 : Int32) + x2)) (((s10 14 (Int32.toNatClampNeg ((17 : Int32) + x2))) ||| ((1 : Int32) <<< (r5 &&& 31))))) (fun s11 =>
 some ((0 : Int32), s11))))))
 else
 some ((0 : Int32), s8)))))
def f_X11_goesBy__0 (σ : St) (x1 : Int32) : Ot :=
 lq1 (fun k2 s4 x3 =>
 (if (s4 0 4) ≤ x3 then
 gd ((0 : Int32)) 22 (gd ((0 : Int32)) 22 (nm (ps s4 14 ((0 : Int32)) (((s4 14 (Int32.toNatClampNeg (0 : Int32))) + (1 : Int32)))) (fun s5 =>
 some ((0 : Int32), s5))))
 else
 jq1 (fun s8 x7 =>
 lq1 (fun k9 s11 x10 =>
 jq0 (fun s13 =>
 nm (x3 + (1 : Int32)) (fun x14 =>
 k2 s13 x14)) (fun k12 =>
 (if (s11 0 2) ≤ x10 then
 k12 s11
 else
 (if x7 ≤ (0 : Int32) then
 k12 s11
 else
 jq0 (fun s16 =>
 nm (x10 + (1 : Int32)) (fun x17 =>
 k9 s16 x17)) (fun k15 =>
 bnd (f_X11_has s11 x7 x10) (fun r18 s19 =>
 (if r18 = (0 : Int32) then
 k15 s19
 else
 bnd (f_X11_letsOut__0 s19 x10 x3) (fun r20 s21 =>
 (if r20 = (0 : Int32) then
 k15 s21
 else
 lq1 (fun k22 s24 x23 =>
 (if (4 : Int32) < x23 then
 k15 s24
 else
 jq0 (fun s26 =>
 nm (x23 + (1 : Int32)) (fun x27 =>
 k22 s26 x27)) (fun k25 =>
 jq0 (fun s29 =>
 bnd (f_X11_blowsFrom__0 s29 x10 x3 x23 x7) (fun r30 s31 =>
 k25 s31)) (fun k28 =>
 (if x1 = (0 : Int32) then
 k28 s24
 else
 (if x1 = x23 then
 k28 s24
 else
 k25 s24)))))) 100000 s21 (1 : Int32)))))))))) 100000 s8 (0 : Int32)) (fun k6 =>
 jq0 (fun s33 =>
 gd (((17 : Int32) + x3)) 22 (k6 s33 ((s33 14 (Int32.toNatClampNeg ((17 : Int32) + x3)))))) (fun k32 =>
 (if (s4 0 29) < (0 : Int32) then
 k32 s4
 else
 (if (s4 0 29) = x3 then
 k32 s4
 else
 k6 s4 (0 : Int32))))))) 100000 σ (0 : Int32)
def f_X11_goes__0 (σ : St) (x1 : Int32) : Ot :=
 lq1 (fun k2 s4 x3 =>
 (if x1 ≤ x3 then
 some ((0 : Int32), s4)
 else
 gd ((0 : Int32)) 22 (bnd (f_X11_windOf__0 s4 ((s4 14 (Int32.toNatClampNeg (0 : Int32))))) (fun r5 s6 =>
 bnd (f_X11_goesBy__0 s6 r5) (fun r7 s8 =>
 nm (x3 + (1 : Int32)) (fun x9 =>
 k2 s8 x9)))))) 100000 σ (0 : Int32)
def f_X11_known__0 (σ : St) (x1 : Int32) : Ot :=
 lq2 (fun k2 s5 x3 x4 =>
 (if (s5 0 4) ≤ x4 then
 some (x3, s5)
 else
 jq2 (fun s9 x7 x8 =>
 nm ((x8 ||| x7)) (fun x10 =>
 nm (x4 + (1 : Int32)) (fun x11 =>
 k2 s9 x10 x11))) (fun k6 =>
 gd (((17 : Int32) + x4)) 22 (bnd (f_X11_has s5 ((s5 14 (Int32.toNatClampNeg ((17 : Int32) + x4)))) x1) (fun r12 s13 =>
 (if r12 = (0 : Int32) then
 k6 s13 (0 : Int32) x3
 else
 k6 s13 (((1 : Int32) <<< (x4 &&& 31))) x3)))))) 100000 σ (0 : Int32) (0 : Int32)
def f_X11_house__0 (σ : St) (x1 x2 : Int32) : Ot :=
 bnd (f_X11_isHouse__0 σ x1) (fun r3 s4 =>
 (if r3 = (0 : Int32) then
 some ((-1 : Int32), s4)
 else
 bnd (f_X11_asItIs__0 s4) (fun r5 s6 =>
 (if x2 = (0 : Int32) then
 gd (x1) 16 (some ((s6 1 (Int32.toNatClampNeg x1)), s6))
 else
 (if x2 = (1 : Int32) then
 gd (((1 : Int32) + x1)) 22 (some ((s6 4 (Int32.toNatClampNeg ((1 : Int32) + x1))), s6))
 else
 (if x2 = (2 : Int32) then
 bnd (f_X11_known__0 s6 x1) (fun r8 s9 =>
 some (r8, s9))
 else
 some ((-1 : Int32), s6)))))))
def f_X11_news__0 (σ : St) (x1 x2 : Int32) : Ot :=
 bnd (f_X11_isNews__0 σ x1) (fun r3 s4 =>
 (if r3 = (0 : Int32) then
 some ((-1 : Int32), s4)
 else
 bnd (f_X11_in s4 x2 (0 : Int32) (3 : Int32)) (fun r5 s6 =>
 (if r5 = (0 : Int32) then
 some ((-1 : Int32), s6)
 else
 (if (3 : Int32) ≤ x2 then
 gd (((17 : Int32) + x1)) 22 (bnd (f_X11_bits s6 ((s6 4 (Int32.toNatClampNeg ((17 : Int32) + x1))))) (fun r7 s8 =>
 some (r7, s8)))
 else
 gd ((((3 : Int32) * x1) + x2)) 15 (some ((s6 2 (Int32.toNatClampNeg (((3 : Int32) * x1) + x2))), s6)))))))
def f_X11_wind__0 (σ : St) (x1 : Int32) : Ot :=
 bnd (f_X11_in σ x1 (0 : Int32) (99 : Int32)) (fun r2 s3 =>
 (if r2 = (0 : Int32) then
 some ((-1 : Int32), s3)
 else
 gd ((0 : Int32)) 22 (bnd (f_X11_windOf__0 s3 (((s3 4 (Int32.toNatClampNeg (0 : Int32))) + x1))) (fun r4 s5 =>
 some (r4, s5)))))
def f_X11_copies__5_4 (σ : St) (x1 x2 x3 : Int32) : Ot :=
 lq1 (fun k4 s6 x5 =>
 (if x3 ≤ x5 then
 some ((0 : Int32), s6)
 else
 gd ((x2 + x5)) 22 (gd ((x1 + x5)) 176 (nm (ps s6 5 ((x1 + x5)) ((s6 4 (Int32.toNatClampNeg (x2 + x5))))) (fun s7 =>
 nm (x5 + (1 : Int32)) (fun x8 =>
 k4 s7 x8)))))) 100000 σ (0 : Int32)
def f_X11_remembers__0 (σ : St) : Ot :=
 jq0 (fun s2 =>
 bnd (f_X11_copies__5_4 s2 (((22 : Int32) * (s2 0 9))) (0 : Int32) (22 : Int32)) (fun r3 s4 =>
 nm (pf s4 0 9 (((s4 0 9) + (1 : Int32)))) (fun s5 =>
 some ((0 : Int32), s5)))) (fun k1 =>
 (if (σ 0 9) = (8 : Int32) then
 lq1 (fun k6 s8 x7 =>
 (if (154 : Int32) ≤ x7 then
 nm (pf s8 0 9 (((s8 0 9) - (1 : Int32)))) (fun s9 =>
 k1 s9)
 else
 gd ((x7 + (22 : Int32))) 176 (gd (x7) 176 (nm (ps s8 5 (x7) ((s8 5 (Int32.toNatClampNeg (x7 + (22 : Int32)))))) (fun s10 =>
 nm (x7 + (1 : Int32)) (fun x11 =>
 k6 s10 x11)))))) 100000 σ (0 : Int32)
 else
 k1 σ))
def f_X11_copies__4_14 (σ : St) (x1 x2 x3 : Int32) : Ot :=
 lq1 (fun k4 s6 x5 =>
 (if x3 ≤ x5 then
 some ((0 : Int32), s6)
 else
 gd ((x2 + x5)) 22 (gd ((x1 + x5)) 22 (nm (ps s6 4 ((x1 + x5)) ((s6 14 (Int32.toNatClampNeg (x2 + x5))))) (fun s7 =>
 nm (x5 + (1 : Int32)) (fun x8 =>
 k4 s7 x8)))))) 100000 σ (0 : Int32)
def f_X11_step__0 (σ : St) (x1 : Int32) : Ot :=
 bnd (f_X11_in σ x1 (1 : Int32) (24 : Int32)) (fun r2 s3 =>
 (if r2 = (0 : Int32) then
 some ((-1 : Int32), s3)
 else
 bnd (f_X11_remembers__0 s3) (fun r4 s5 =>
 bnd (f_X11_asItIs__0 s5) (fun r6 s7 =>
 bnd (f_X11_goes__0 s7 x1) (fun r8 s9 =>
 bnd (f_X11_copies__4_14 s9 (0 : Int32) (0 : Int32) (22 : Int32)) (fun r10 s11 =>
 gd ((0 : Int32)) 22 (some ((s11 4 (Int32.toNatClampNeg (0 : Int32))), s11))))))))
def f_X11_open__0 (σ : St) (x1 x2 : Int32) : Ot :=
 bnd (f_X11_isHouse__0 σ x1) (fun r3 s4 =>
 (if r3 = (0 : Int32) then
 some ((-1 : Int32), s4)
 else
 bnd (f_X11_in s4 x2 (0 : Int32) (6 : Int32)) (fun r5 s6 =>
 (if r5 = (0 : Int32) then
 some ((-1 : Int32), s6)
 else
 bnd (f_X11_remembers__0 s6) (fun r7 s8 =>
 gd (((1 : Int32) + x1)) 22 (nm ((s8 4 (Int32.toNatClampNeg ((1 : Int32) + x1)))) (fun x9 =>
 gd (((1 : Int32) + x1)) 22 (nm (ps s8 4 (((1 : Int32) + x1)) (x2)) (fun s10 =>
 some (x9, s10))))))))))
def f_X11_tell__0 (σ : St) (x1 x2 : Int32) : Ot :=
 bnd (f_X11_isHouse__0 σ x1) (fun r3 s4 =>
 (if r3 = (0 : Int32) then
 some ((-1 : Int32), s4)
 else
 bnd (f_X11_isNews__0 s4 x2) (fun r5 s6 =>
 (if r5 = (0 : Int32) then
 some ((-1 : Int32), s6)
 else
 gd (((17 : Int32) + x2)) 22 (bnd (f_X11_has s6 ((s6 4 (Int32.toNatClampNeg ((17 : Int32) + x2)))) x1) (fun r7 s8 =>
 (if r7 = (0 : Int32) then
 bnd (f_X11_remembers__0 s8) (fun r9 s10 =>
 gd (((17 : Int32) + x2)) 22 (gd (((17 : Int32) + x2)) 22 (nm (ps s10 4 (((17 : Int32) + x2)) (((s10 4 (Int32.toNatClampNeg ((17 : Int32) + x2))) ||| ((1 : Int32) <<< (x1 &&& 31))))) (fun s11 =>
 gd (((17 : Int32) + x2)) 22 (bnd (f_X11_bits s11 ((s11 4 (Int32.toNatClampNeg ((17 : Int32) + x2))))) (fun r12 s13 =>
 some (r12, s13)))))))
 else
 some ((-2 : Int32), s8))))))))
def f_X11_copies__4_5 (σ : St) (x1 x2 x3 : Int32) : Ot :=
 lq1 (fun k4 s6 x5 =>
 (if x3 ≤ x5 then
 some ((0 : Int32), s6)
 else
 gd ((x2 + x5)) 176 (gd ((x1 + x5)) 22 (nm (ps s6 4 ((x1 + x5)) ((s6 5 (Int32.toNatClampNeg (x2 + x5))))) (fun s7 =>
 nm (x5 + (1 : Int32)) (fun x8 =>
 k4 s7 x8)))))) 100000 σ (0 : Int32)
def f_X11_undo__0 (σ : St) : Ot :=
 (if (σ 0 9) = (0 : Int32) then
 some ((-2 : Int32), σ)
 else
 nm (pf σ 0 9 (((σ 0 9) - (1 : Int32)))) (fun s1 =>
 bnd (f_X11_copies__4_5 s1 (0 : Int32) (((22 : Int32) * (s1 0 9))) (22 : Int32)) (fun r2 s3 =>
 some ((s3 0 9), s3))))
def f_X11_behind__0 (σ : St) (x1 x2 : Int32) : Ot :=
 bnd (f_X11_in σ x1 (0 : Int32) (48 : Int32)) (fun r3 s4 =>
 (if r3 = (0 : Int32) then
 some ((-1 : Int32), s4)
 else
 bnd (f_X11_isHouse__0 s4 x2) (fun r5 s6 =>
 (if r5 = (0 : Int32) then
 some ((-1 : Int32), s6)
 else
 bnd (f_X11_asItIs__0 s6) (fun r7 s8 =>
 bnd (f_X11_goes__0 s8 x1) (fun r9 s10 =>
 bnd (f_X11_known__0 s10 x2) (fun r11 s12 =>
 some (r11, s12))))))))
def f_X11_knowsBehind__0 (σ : St) (x1 x2 : Int32) : Ot :=
 lq1 (fun k3 s5 x4 =>
 (if (48 : Int32) < x4 then
 some ((-4 : Int32), s5)
 else
 gd (((17 : Int32) + x2)) 22 (bnd (f_X11_has s5 ((s5 14 (Int32.toNatClampNeg ((17 : Int32) + x2)))) x1) (fun r6 s7 =>
 (if r6 = (0 : Int32) then
 bnd (f_X11_goes__0 s7 (1 : Int32)) (fun r8 s9 =>
 nm (x4 + (1 : Int32)) (fun x10 =>
 k3 s9 x10))
 else
 some (x4, s7)))))) 100000 σ (0 : Int32)
def f_X11_when__0 (σ : St) (x1 x2 : Int32) : Ot :=
 bnd (f_X11_isHouse__0 σ x1) (fun r3 s4 =>
 (if r3 = (0 : Int32) then
 some ((-1 : Int32), s4)
 else
 bnd (f_X11_isNews__0 s4 x2) (fun r5 s6 =>
 (if r5 = (0 : Int32) then
 some ((-1 : Int32), s6)
 else
 bnd (f_X11_asItIsOf__0 s6 x2) (fun r7 s8 =>
 bnd (f_X11_knowsBehind__0 s8 x1 x2) (fun r9 s10 =>
 some (r9, s10)))))))
def f_X11_last__0 (σ : St) (x1 x2 : Int32) : Ot :=
 bnd (f_X11_isNews__0 σ x1) (fun r3 s4 =>
 (if r3 = (0 : Int32) then
 some ((-1 : Int32), s4)
 else
 bnd (f_X11_in s4 x2 (0 : Int32) (1 : Int32)) (fun r5 s6 =>
 (if r5 = (0 : Int32) then
 some ((-1 : Int32), s6)
 else
 lq3 (fun k7 s11 x8 x9 x10 =>
 (if (s11 0 2) ≤ x10 then
 jq0 (fun s13 =>
 some (x8, s13)) (fun k12 =>
 (if x2 = (0 : Int32) then
 k12 s11
 else
 (if (0 : Int32) ≤ x8 then
 some (x9, s11)
 else
 k12 s11)))
 else
 jq2 (fun s17 x15 x16 =>
 jq2 (fun s21 x19 x20 =>
 jq2 (fun s25 x23 x24 =>
 nm (x10 + (1 : Int32)) (fun x26 =>
 k7 s25 x23 x24 x26)) (fun k22 =>
 (if x19 = (0 : Int32) then
 k22 s21 x20 x9
 else
 k22 s21 x20 x15))) (fun k18 =>
 (if x16 = (0 : Int32) then
 k18 s17 x16 x8
 else
 k18 s17 x16 x10))) (fun k14 =>
 jq1 (fun s29 x28 =>
 k14 s29 x28 (0 : Int32)) (fun k27 =>
 bnd (f_X11_asItIsOf__0 s11 x1) (fun r30 s31 =>
 bnd (f_X11_knowsBehind__0 s31 x10 x1) (fun r32 s33 =>
 (if r32 ≤ (0 : Int32) then
 k27 s33 r32
 else
 (if r32 < x9 then
 k27 s33 r32
 else
 k14 s33 r32 (1 : Int32))))))))) 100000 s6 (-4 : Int32) (0 : Int32) (0 : Int32)))))
def f_X11_isCutBy__0 (σ : St) (x1 x2 x3 : Int32) : Ot :=
 bnd (f_X11_asItIsOf__0 σ x3) (fun r4 s5 =>
 lq1 (fun k6 s8 x7 =>
 (if (s8 0 2) ≤ x7 then
 bnd (f_X11_knowsBehind__0 s8 x2 x3) (fun r9 s10 =>
 (if (0 : Int32) ≤ r9 then
 some ((0 : Int32), s10)
 else
 some ((1 : Int32), s10)))
 else
 jq2 (fun s14 x12 x13 =>
 gd (x13) 22 (nm (ps s14 14 (x13) (x12)) (fun s15 =>
 nm (x7 + (1 : Int32)) (fun x16 =>
 k6 s15 x16)))) (fun k11 =>
 bnd (f_X11_has s8 x1 x7) (fun r17 s18 =>
 (if r17 = (0 : Int32) then
 gd (((1 : Int32) + x7)) 22 (k11 s18 ((s18 14 (Int32.toNatClampNeg ((1 : Int32) + x7)))) (((1 : Int32) + x7)))
 else
 k11 s18 (0 : Int32) (((1 : Int32) + x7))))))) 100000 s5 (0 : Int32))
def f_X11_cut__0 (σ : St) (x1 x2 x3 : Int32) : Ot :=
 bnd (f_X11_isHouse__0 σ x1) (fun r4 s5 =>
 (if r4 = (0 : Int32) then
 some ((-1 : Int32), s5)
 else
 bnd (f_X11_isNews__0 s5 x2) (fun r6 s7 =>
 (if r6 = (0 : Int32) then
 some ((-1 : Int32), s7)
 else
 bnd (f_X11_in s7 x3 (0 : Int32) (1 : Int32)) (fun r8 s9 =>
 (if r8 = (0 : Int32) then
 some ((-1 : Int32), s9)
 else
 gd (((17 : Int32) + x2)) 22 (bnd (f_X11_has s9 ((s9 4 (Int32.toNatClampNeg ((17 : Int32) + x2)))) x1) (fun r10 s11 =>
 (if r10 = (0 : Int32) then
 lq1 (fun k12 s14 x13 =>
 (if (3 : Int32) < x13 then
 some ((-4 : Int32), s14)
 else
 lq1 (fun k15 s17 x16 =>
 (if ((1 : Int32) <<< ((s17 0 2) &&& 31)) ≤ x16 then
 nm (x13 + (1 : Int32)) (fun x18 =>
 k12 s17 x18)
 else
 jq0 (fun s20 =>
 nm (x16 + (1 : Int32)) (fun x21 =>
 k15 s20 x21)) (fun k19 =>
 bnd (f_X11_has s17 x16 x1) (fun r22 s23 =>
 (if r22 = (0 : Int32) then
 bnd (f_X11_bits s23 x16) (fun r24 s25 =>
 (if r24 = x13 then
 bnd (f_X11_isCutBy__0 s25 x16 x1 x2) (fun r26 s27 =>
 (if r26 = (0 : Int32) then
 k19 s27
 else
 (if x3 = (0 : Int32) then
 some (x13, s27)
 else
 some (x16, s27))))
 else
 k19 s25))
 else
 k19 s23))))) 100000 s14 (0 : Int32))) 100000 s11 (0 : Int32)
 else
 some ((-4 : Int32), s11))))))))))
def f_X11_isSoBy__0 (σ : St) (x1 x2 x3 x4 : Int32) : Ot :=
 jq0 (fun s6 =>
 jq0 (fun s8 =>
 jq0 (fun s10 =>
 some ((0 : Int32), s10)) (fun k9 =>
 bnd (f_X11_goes__0 s8 x2) (fun r11 s12 =>
 gd (((17 : Int32) + x1)) 22 ((if ((s12 14 (Int32.toNatClampNeg ((17 : Int32) + x1))) &&& x3) = x3 then
 gd (((17 : Int32) + x1)) 22 ((if ((s12 14 (Int32.toNatClampNeg ((17 : Int32) + x1))) &&& x4) = (0 : Int32) then
 some ((1 : Int32), s12)
 else
 k9 s12))
 else
 k9 s12))))) (fun k7 =>
 (if (s6 0 31) < (0 : Int32) then
 k7 s6
 else
 nz ((10 : Int32)) (nz ((10 : Int32)) (gd (((1 : Int32) + ((s6 0 31) / (10 : Int32)))) 22 (nm (ps s6 14 (((1 : Int32) + ((s6 0 31) / (10 : Int32)))) (((s6 0 31) - (s6 0 31) / (10 : Int32) * (10 : Int32)))) (fun s13 =>
 k7 s13))))))) (fun k5 =>
 bnd (f_X11_asItIsOf__0 σ x1) (fun r14 s15 =>
 (if (s15 0 30) < (0 : Int32) then
 k5 s15
 else
 nz ((10 : Int32)) (nz ((10 : Int32)) (gd (((1 : Int32) + ((s15 0 30) / (10 : Int32)))) 22 (nm (ps s15 14 (((1 : Int32) + ((s15 0 30) / (10 : Int32)))) (((s15 0 30) - (s15 0 30) / (10 : Int32) * (10 : Int32)))) (fun s16 =>
 k5 s16)))))))
def f_X11_findWay__0 (σ : St) (x1 x2 x3 x4 x5 : Int32) : Ot :=
 jq1 (fun s8 x7 =>
 lq1 (fun k9 s11 x10 =>
 (if x7 ≤ x10 then
 some ((0 : Int32), s11)
 else
 jq0 (fun s13 =>
 nm (x10 + (1 : Int32)) (fun x14 =>
 k9 s13 x14)) (fun k12 =>
 jq0 (fun s16 =>
 jq1 (fun s19 x18 =>
 jq1 (fun s22 x21 =>
 lq1 (fun k23 s25 x24 =>
 (if ((10 : Int32) * (s25 0 2)) ≤ x24 then
 k12 s25
 else
 jq0 (fun s27 =>
 nm (x24 + (1 : Int32)) (fun x28 =>
 k23 s27 x28)) (fun k26 =>
 jq0 (fun s30 =>
 jq1 (fun s33 x32 =>
 nm (pf s33 0 31 x32) (fun s34 =>
 bnd (f_X11_isSoBy__0 s34 x2 x3 x4 x5) (fun r35 s36 =>
 (if r35 = (0 : Int32) then
 k26 s36
 else
 some ((1 : Int32), s36))))) (fun k31 =>
 (if (2 : Int32) ≤ x1 then
 k31 s30 x24
 else
 k31 s30 (-1 : Int32)))) (fun k29 =>
 (if x1 < (2 : Int32) then
 k29 s25
 else
 nz ((10 : Int32)) ((if (6 : Int32) < (x24 - x24 / (10 : Int32) * (10 : Int32)) then
 k26 s25
 else
 k29 s25))))))) 100000 s22 x21) (fun k20 =>
 nm (pf s19 0 30 x18) (fun s37 =>
 (if x1 = (2 : Int32) then
 nz ((10 : Int32)) (k20 s37 (((10 : Int32) * ((x10 / (10 : Int32)) + (1 : Int32)))))
 else
 k20 s37 ((((10 : Int32) * (s37 0 2)) - (1 : Int32))))))) (fun k17 =>
 (if x1 = (0 : Int32) then
 k17 s16 (-1 : Int32)
 else
 k17 s16 x10))) (fun k15 =>
 (if x1 = (0 : Int32) then
 k15 s11
 else
 nz ((10 : Int32)) ((if (6 : Int32) < (x10 - x10 / (10 : Int32) * (10 : Int32)) then
 k12 s11
 else
 k15 s11))))))) 100000 s8 (0 : Int32)) (fun k6 =>
 (if x1 = (0 : Int32) then
 k6 σ (1 : Int32)
 else
 k6 σ (((10 : Int32) * (σ 0 2)))))
def f_X11_openings__0 (σ : St) (x1 x2 x3 x4 x5 : Int32) : Ot :=
 nm ((((1 : Int32) <<< ((σ 0 2) &&& 31)) - (1 : Int32))) (fun x6 =>
 bnd (f_X11_isNews__0 σ x1) (fun r7 s8 =>
 (if r7 = (0 : Int32) then
 some ((-1 : Int32), s8)
 else
 bnd (f_X11_in s8 x2 (1 : Int32) (12 : Int32)) (fun r9 s10 =>
 (if r9 = (0 : Int32) then
 some ((-1 : Int32), s10)
 else
 bnd (f_X11_in s10 x3 (0 : Int32) x6) (fun r11 s12 =>
 (if r11 = (0 : Int32) then
 some ((-1 : Int32), s12)
 else
 bnd (f_X11_in s12 x4 (0 : Int32) x6) (fun r13 s14 =>
 (if r13 = (0 : Int32) then
 some ((-1 : Int32), s14)
 else
 (if (x3 &&& x4) = (0 : Int32) then
 bnd (f_X11_in s14 x5 (0 : Int32) (2 : Int32)) (fun r15 s16 =>
 (if r15 = (0 : Int32) then
 some ((-1 : Int32), s16)
 else
 lq1 (fun k17 s19 x18 =>
 (if (2 : Int32) < x18 then
 some ((-4 : Int32), s19)
 else
 bnd (f_X11_findWay__0 s19 x18 x1 x2 x3 x4) (fun r20 s21 =>
 (if r20 = (0 : Int32) then
 nm (x18 + (1 : Int32)) (fun x22 =>
 k17 s21 x22)
 else
 (if x5 = (0 : Int32) then
 some (x18, s21)
 else
 (if x5 ≤ x18 then
 (if x5 = (1 : Int32) then
 some ((s21 0 30), s21)
 else
 some ((s21 0 31), s21))
 else
 some ((-4 : Int32), s21))))))) 100000 s16 (0 : Int32)))
 else
 some ((-1 : Int32), s14)))))))))))
def f_X11_heavy__0 (σ : St) (x1 : Int32) : Ot :=
 lq2 (fun k2 s5 x3 x4 =>
 (if (s5 0 4) ≤ x4 then
 some (x3, s5)
 else
 jq2 (fun s9 x7 x8 =>
 nm ((x8 + x7)) (fun x10 =>
 nm (x4 + (1 : Int32)) (fun x11 =>
 k2 s9 x10 x11))) (fun k6 =>
 bnd (f_X11_has s5 x1 x4) (fun r12 s13 =>
 (if r12 = (0 : Int32) then
 k6 s13 (0 : Int32) x3
 else
 gd ((((3 : Int32) * x4) + (1 : Int32))) 15 (k6 s13 ((s13 2 (Int32.toNatClampNeg (((3 : Int32) * x4) + (1 : Int32))))) x3)))))) 100000 σ (0 : Int32) (0 : Int32)
def f_X11_bears__0 (σ : St) (x1 x2 : Int32) : Ot :=
 bnd (f_X11_isHouse__0 σ x1) (fun r3 s4 =>
 (if r3 = (0 : Int32) then
 some ((-1 : Int32), s4)
 else
 bnd (f_X11_in s4 x2 (0 : Int32) (20 : Int32)) (fun r5 s6 =>
 (if r5 = (0 : Int32) then
 some ((-1 : Int32), s6)
 else
 lq1 (fun k7 s9 x8 =>
 (if x8 < (0 : Int32) then
 some ((-4 : Int32), s9)
 else
 bnd (f_X11_asItIs__0 s9) (fun r10 s11 =>
 gd (((1 : Int32) + x1)) 22 (nm (ps s11 14 (((1 : Int32) + x1)) (x8)) (fun s12 =>
 bnd (f_X11_goes__0 s12 (48 : Int32)) (fun r13 s14 =>
 bnd (f_X11_known__0 s14 x1) (fun r15 s16 =>
 bnd (f_X11_heavy__0 s16 r15) (fun r17 s18 =>
 (if x2 < r17 then
 nm (x8 + (-1 : Int32)) (fun x19 =>
 k7 s18 x19)
 else
 some (x8, s18)))))))))) 100000 s6 (6 : Int32)))))
def f_X11_knowsBy__0 (σ : St) (x1 x2 x3 x4 x5 : Int32) : Ot :=
 jq0 (fun s7 =>
 jq0 (fun s9 =>
 bnd (f_X11_goes__0 s9 x5) (fun r10 s11 =>
 gd (((17 : Int32) + x4)) 22 (bnd (f_X11_has s11 ((s11 14 (Int32.toNatClampNeg ((17 : Int32) + x4)))) x3) (fun r12 s13 =>
 zg r12 (some (r12, s13)))))) (fun k8 =>
 (if (16 : Int32) ≤ x2 then
 k8 s7
 else
 gd (((1 : Int32) + x2)) 22 ((if (s7 14 (Int32.toNatClampNeg ((1 : Int32) + x2))) ≤ (0 : Int32) then
 k8 s7
 else
 gd (((1 : Int32) + x2)) 22 (gd (((1 : Int32) + x2)) 22 (nm (ps s7 14 (((1 : Int32) + x2)) (((s7 14 (Int32.toNatClampNeg ((1 : Int32) + x2))) - (1 : Int32)))) (fun s14 =>
 k8 s14)))))))) (fun k6 =>
 bnd (f_X11_asItIsOf__0 σ x4) (fun r15 s16 =>
 (if (16 : Int32) ≤ x1 then
 k6 s16
 else
 gd (((1 : Int32) + x1)) 22 ((if (6 : Int32) ≤ (s16 14 (Int32.toNatClampNeg ((1 : Int32) + x1))) then
 k6 s16
 else
 gd (((1 : Int32) + x1)) 22 (gd (((1 : Int32) + x1)) 22 (nm (ps s16 14 (((1 : Int32) + x1)) (((s16 14 (Int32.toNatClampNeg ((1 : Int32) + x1))) + (1 : Int32)))) (fun s17 =>
 k6 s17))))))))
def f_X11_isWon__0 (σ : St) (x1 x2 x3 x4 : Int32) : Ot :=
 bnd (f_X11_knowsBy__0 σ x1 (16 : Int32) x2 x3 x4) (fun r5 s6 =>
 lq2 (fun k7 s10 x8 x9 =>
 (if (s10 0 2) ≤ x9 then
 zg x8 (some (x8, s10))
 else
 (if x8 = (0 : Int32) then
 zg x8 (some (x8, s10))
 else
 bnd (f_X11_knowsBy__0 s10 x1 x9 x2 x3 x4) (fun r11 s12 =>
 nm (x9 + (1 : Int32)) (fun x13 =>
 k7 s12 r11 x13))))) 100000 s6 r5 (0 : Int32))
def f_X11_quarrel__0 (σ : St) (x1 x2 x3 x4 : Int32) : Ot :=
 bnd (f_X11_isHouse__0 σ x1) (fun r5 s6 =>
 (if r5 = (0 : Int32) then
 some ((-1 : Int32), s6)
 else
 bnd (f_X11_isNews__0 s6 x2) (fun r7 s8 =>
 (if r7 = (0 : Int32) then
 some ((-1 : Int32), s8)
 else
 bnd (f_X11_in s8 x3 (1 : Int32) (12 : Int32)) (fun r9 s10 =>
 (if r9 = (0 : Int32) then
 some ((-1 : Int32), s10)
 else
 bnd (f_X11_in s10 x4 (0 : Int32) (1 : Int32)) (fun r11 s12 =>
 (if r11 = (0 : Int32) then
 some ((-1 : Int32), s12)
 else
 nm (((s12 0 2) - (1 : Int32))) (fun x13 =>
 lq2 (fun k14 s17 x15 x16 =>
 (if x16 < (0 : Int32) then
 bnd (f_X11_isWon__0 s17 (16 : Int32) x1 x2 x3) (fun r18 s19 =>
 (if x4 = (0 : Int32) then
 jq0 (fun s23 =>
 some ((1 : Int32), s23)) (fun k22 =>
 (if r18 = (0 : Int32) then
 (if x15 < (0 : Int32) then
 some ((0 : Int32), s19)
 else
 k22 s19)
 else
 k22 s19))
 else
 jq0 (fun s21 =>
 some ((16 : Int32), s21)) (fun k20 =>
 (if r18 = (0 : Int32) then
 (if (0 : Int32) ≤ x15 then
 some (x15, s19)
 else
 k20 s19)
 else
 k20 s19))))
 else
 jq1 (fun s26 x25 =>
 nm (x16 + (-1 : Int32)) (fun x27 =>
 k14 s26 x25 x27)) (fun k24 =>
 bnd (f_X11_isWon__0 s17 x16 x1 x2 x3) (fun r28 s29 =>
 (if r28 = (0 : Int32) then
 k24 s29 x15
 else
 k24 s29 x16))))) 100000 s12 (-1 : Int32) x13)))))))))
def f_X11_see__0 (σ : St) (x1 x2 x3 x4 : Int32) : Ot :=
 bnd (f_X11_isHouse__0 σ x1) (fun r5 s6 =>
 (if r5 = (0 : Int32) then
 some ((-1 : Int32), s6)
 else
 bnd (f_X11_isNews__0 s6 x2) (fun r7 s8 =>
 (if r7 = (0 : Int32) then
 some ((-1 : Int32), s8)
 else
 bnd (f_X11_in s8 x3 (0 : Int32) (30 : Int32)) (fun r9 s10 =>
 (if r9 = (0 : Int32) then
 some ((-1 : Int32), s10)
 else
 (if (s10 0 13) = (6 : Int32) then
 some ((-3 : Int32), s10)
 else
 jq2 (fun s14 x12 x13 =>
 gd (x13) 24 (nm (ps s14 7 (x13) (x12)) (fun s15 =>
 nm (pf s15 0 13 (((s15 0 13) + (1 : Int32)))) (fun s16 =>
 some ((s16 0 13), s16))))) (fun k11 =>
 gd (((4 : Int32) * (s10 0 13))) 24 (nm (ps s10 7 (((4 : Int32) * (s10 0 13))) (x1)) (fun s17 =>
 gd ((((4 : Int32) * (s17 0 13)) + (1 : Int32))) 24 (nm (ps s17 7 ((((4 : Int32) * (s17 0 13)) + (1 : Int32))) (x2)) (fun s18 =>
 gd ((((4 : Int32) * (s18 0 13)) + (2 : Int32))) 24 (nm (ps s18 7 ((((4 : Int32) * (s18 0 13)) + (2 : Int32))) (x3)) (fun s19 =>
 (if x4 = (0 : Int32) then
 k11 s19 (0 : Int32) ((((4 : Int32) * (s19 0 13)) + (3 : Int32)))
 else
 k11 s19 (1 : Int32) ((((4 : Int32) * (s19 0 13)) + (3 : Int32))))))))))))))))))
def f_X11_forget__0 (σ : St) : Ot :=
 nm ((σ 0 13)) (fun x1 =>
 nm (pf σ 0 13 (0 : Int32)) (fun s2 =>
 some (x1, s2)))
def f_X11_isSo__0 (σ : St) (x1 x2 : Int32) : Ot :=
 lq2 (fun k3 s6 x4 x5 =>
 (if (s6 0 13) ≤ x5 then
 zg x4 (some (x4, s6))
 else
 jq1 (fun s9 x8 =>
 nm (x5 + (1 : Int32)) (fun x10 =>
 k3 s9 x8 x10)) (fun k7 =>
 gd ((((4 : Int32) * x5) + (2 : Int32))) 24 ((if (s6 7 (Int32.toNatClampNeg (((4 : Int32) * x5) + (2 : Int32)))) = x2 then
 jq0 (fun s12 =>
 jq1 (fun s15 x14 =>
 k7 s15 x14) (fun k13 =>
 jq0 (fun s17 =>
 k13 s17 (0 : Int32)) (fun k16 =>
 (if x4 = (0 : Int32) then
 k16 s12
 else
 jq2 (fun s21 x19 x20 =>
 (if x20 = x19 then
 k13 s21 (1 : Int32)
 else
 k16 s21)) (fun k18 =>
 gd ((((4 : Int32) * x5) + (1 : Int32))) 24 (gd (((17 : Int32) + (s12 7 (Int32.toNatClampNeg (((4 : Int32) * x5) + (1 : Int32)))))) 22 (gd (((4 : Int32) * x5)) 24 (bnd (f_X11_has s12 ((s12 14 (Int32.toNatClampNeg ((17 : Int32) + (s12 7 (Int32.toNatClampNeg (((4 : Int32) * x5) + (1 : Int32)))))))) ((s12 7 (Int32.toNatClampNeg ((4 : Int32) * x5))))) (fun r22 s23 =>
 gd ((((4 : Int32) * x5) + (3 : Int32))) 24 ((if (s23 7 (Int32.toNatClampNeg (((4 : Int32) * x5) + (3 : Int32)))) = (1 : Int32) then
 k18 s23 (1 : Int32) r22
 else
 k18 s23 (0 : Int32) r22))))))))))) (fun k11 =>
 (if x1 < (0 : Int32) then
 k11 s6
 else
 gd ((((4 : Int32) * x5) + (1 : Int32))) 24 ((if (s6 7 (Int32.toNatClampNeg (((4 : Int32) * x5) + (1 : Int32)))) = x1 then
 k11 s6
 else
 k7 s6 x4))))
 else
 k7 s6 x4))))) 100000 σ (1 : Int32) (0 : Int32)
def f_X11_isSoAll__0 (σ : St) (x1 x2 : Int32) : Ot :=
 bnd (f_X11_isSo__0 σ x1 (0 : Int32)) (fun r3 s4 =>
 lq2 (fun k5 s8 x6 x7 =>
 (if (30 : Int32) < x7 then
 zg x6 (some (x6, s8))
 else
 (if x6 = (0 : Int32) then
 zg x6 (some (x6, s8))
 else
 jq1 (fun s11 x10 =>
 bnd (f_X11_goesBy__0 s11 x10) (fun r12 s13 =>
 bnd (f_X11_isSo__0 s13 x1 x7) (fun r14 s15 =>
 nm (x7 + (1 : Int32)) (fun x16 =>
 k5 s15 r14 x16)))) (fun k9 =>
 jq0 (fun s18 =>
 gd ((0 : Int32)) 22 (bnd (f_X11_windOf__0 s18 ((s18 14 (Int32.toNatClampNeg (0 : Int32))))) (fun r19 s20 =>
 k9 s20 r19))) (fun k17 =>
 (if x7 = (1 : Int32) then
 (if x2 < (0 : Int32) then
 k17 s8
 else
 k9 s8 x2)
 else
 k17 s8)))))) 100000 s4 r3 (1 : Int32))
def f_X11_began__0 (σ : St) (x1 : Int32) : Ot :=
 bnd (f_X11_isNews__0 σ x1) (fun r2 s3 =>
 (if r2 = (0 : Int32) then
 some ((-1 : Int32), s3)
 else
 lq2 (fun k4 s7 x5 x6 =>
 (if (s7 0 2) ≤ x6 then
 some (x5, s7)
 else
 jq2 (fun s11 x9 x10 =>
 nm ((x10 ||| x9)) (fun x12 =>
 nm (x6 + (1 : Int32)) (fun x13 =>
 k4 s11 x12 x13))) (fun k8 =>
 bnd (f_X11_asItIs__0 s7) (fun r14 s15 =>
 gd (((17 : Int32) + x1)) 22 (nm (ps s15 14 (((17 : Int32) + x1)) (((1 : Int32) <<< (x6 &&& 31)))) (fun s16 =>
 bnd (f_X11_isSoAll__0 s16 x1 (-1 : Int32)) (fun r17 s18 =>
 (if r17 = (0 : Int32) then
 k8 s18 (0 : Int32) x5
 else
 k8 s18 (((1 : Int32) <<< (x6 &&& 31))) x5)))))))) 100000 s3 (0 : Int32) (0 : Int32)))
def f_X11_blew__0 (σ : St) : Ot :=
 lq2 (fun k1 s4 x2 x3 =>
 (if (4 : Int32) < x3 then
 some (x2, s4)
 else
 jq2 (fun s8 x6 x7 =>
 nm ((x7 ||| x6)) (fun x9 =>
 nm (x3 + (1 : Int32)) (fun x10 =>
 k1 s8 x9 x10))) (fun k5 =>
 bnd (f_X11_asItIs__0 s4) (fun r11 s12 =>
 bnd (f_X11_isSoAll__0 s12 (-1 : Int32) x3) (fun r13 s14 =>
 (if r13 = (0 : Int32) then
 k5 s14 (0 : Int32) x2
 else
 k5 s14 (((1 : Int32) <<< (x3 &&& 31))) x2)))))) 100000 σ (0 : Int32) (0 : Int32)
def f_X11_gusts__0 (σ : St) (x1 x2 x3 x4 : Int32) : Ot :=
 bnd (f_X11_isHouse__0 σ x1) (fun r5 s6 =>
 (if r5 = (0 : Int32) then
 some ((-1 : Int32), s6)
 else
 bnd (f_X11_isNews__0 s6 x2) (fun r7 s8 =>
 (if r7 = (0 : Int32) then
 some ((-1 : Int32), s8)
 else
 bnd (f_X11_in s8 x3 (0 : Int32) (4 : Int32)) (fun r9 s10 =>
 (if r9 = (0 : Int32) then
 some ((-1 : Int32), s10)
 else
 bnd (f_X11_in s10 x4 (0 : Int32) (1 : Int32)) (fun r11 s12 =>
 (if r11 = (0 : Int32) then
 some ((-1 : Int32), s12)
 else
 nm (((1 : Int32) <<< (((2 : Int32) * x3) &&& 31))) (fun x13 =>
 lq2 (fun k14 s17 x15 x16 =>
 (if x13 ≤ x16 then
 lq2 (fun k18 s21 x19 x20 =>
 (if x20 ≤ (0 : Int32) then
 (if x4 = (0 : Int32) then
 nz (x19) (some ((x15 / x19), s21))
 else
 nz (x19) (some ((x13 / x19), s21)))
 else
 nz (x20) (nm ((x19 - x19 / x20 * x20)) (fun x22 =>
 k18 s21 x20 x22)))) 100000 s17 x15 x13
 else
 bnd (f_X11_asItIsOf__0 s17 x2) (fun r23 s24 =>
 lq1 (fun k25 s27 x26 =>
 (if x3 ≤ x26 then
 jq2 (fun s31 x29 x30 =>
 nm ((x30 + x29)) (fun x32 =>
 nm (x16 + (1 : Int32)) (fun x33 =>
 k14 s31 x32 x33))) (fun k28 =>
 gd (((17 : Int32) + x2)) 22 (bnd (f_X11_has s27 ((s27 14 (Int32.toNatClampNeg ((17 : Int32) + x2)))) x1) (fun r34 s35 =>
 (if r34 = (0 : Int32) then
 k28 s35 (0 : Int32) x15
 else
 k28 s35 (1 : Int32) x15))))
 else
 bnd (f_X11_goesBy__0 s27 (((1 : Int32) + ((x16 >>> (((2 : Int32) * x26) &&& 31)) &&& (3 : Int32))))) (fun r36 s37 =>
 nm (x26 + (1 : Int32)) (fun x38 =>
 k25 s37 x38)))) 100000 s24 (0 : Int32)))) 100000 s12 (0 : Int32) (0 : Int32))))))))))
def f_X11_knowers__0 (σ : St) : Ot :=
 lq2 (fun k1 s4 x2 x3 =>
 (if (s4 0 4) ≤ x3 then
 bnd (f_X11_bits s4 x2) (fun r5 s6 =>
 some (r5, s6))
 else
 gd (((17 : Int32) + x3)) 22 (nm ((x2 ||| (s4 14 (Int32.toNatClampNeg ((17 : Int32) + x3))))) (fun x7 =>
 nm (x3 + (1 : Int32)) (fun x8 =>
 k1 s4 x7 x8))))) 100000 σ (0 : Int32) (0 : Int32)
def f_X11_allKnown__0 (σ : St) : Ot :=
 lq2 (fun k1 s4 x2 x3 =>
 (if (s4 0 4) ≤ x3 then
 some (x2, s4)
 else
 gd (((17 : Int32) + x3)) 22 (bnd (f_X11_bits s4 ((s4 14 (Int32.toNatClampNeg ((17 : Int32) + x3))))) (fun r5 s6 =>
 nm ((x2 + r5)) (fun x7 =>
 nm (x3 + (1 : Int32)) (fun x8 =>
 k1 s6 x7 x8)))))) 100000 σ (0 : Int32) (0 : Int32)
def f_X11_year__0 (σ : St) (x1 x2 x3 : Int32) : Ot :=
 bnd (f_X11_in σ x1 (0 : Int32) (9999 : Int32)) (fun r4 s5 =>
 (if r4 = (0 : Int32) then
 some ((-1 : Int32), s5)
 else
 bnd (f_X11_in s5 x2 (1 : Int32) (60 : Int32)) (fun r6 s7 =>
 (if r6 = (0 : Int32) then
 some ((-1 : Int32), s7)
 else
 bnd (f_X11_in s7 x3 (0 : Int32) (1 : Int32)) (fun r8 s9 =>
 (if r8 = (0 : Int32) then
 some ((-1 : Int32), s9)
 else
 bnd (f_X11_asItIs__0 s9) (fun r10 s11 =>
 bnd (f_X11_allKnown__0 s11) (fun r12 s13 =>
 lq1 (fun k14 s16 x15 =>
 (if x2 ≤ x15 then
 (if x3 = (0 : Int32) then
 bnd (f_X11_knowers__0 s16) (fun r19 s20 =>
 some (r19, s20))
 else
 bnd (f_X11_allKnown__0 s16) (fun r17 s18 =>
 some ((r17 - r12), s18)))
 else
 nm (((((7919 : Int64) * (Int32.toInt64 x1)) + ((6151 : Int64) * (Int32.toInt64 x15))) + (1 : Int64))) (fun y21 =>
 nzl ((65521 : Int64)) (nzl ((2 : Int64)) (nm ((Int64.toInt32 (((y21 * y21) - (y21 * y21) / (65521 : Int64) * (65521 : Int64)) / (2 : Int64)))) (fun x22 =>
 nz ((s16 0 2)) (nz ((16 : Int32)) (nz ((7 : Int32)) (gd (((1 : Int32) + (x22 - x22 / (s16 0 2) * (s16 0 2)))) 22 (nm (ps s16 14 (((1 : Int32) + (x22 - x22 / (s16 0 2) * (s16 0 2)))) (((x22 / (16 : Int32)) - (x22 / (16 : Int32)) / (7 : Int32) * (7 : Int32)))) (fun s23 =>
 bnd (f_X11_goes__0 s23 (1 : Int32)) (fun r24 s25 =>
 nm (x15 + (1 : Int32)) (fun x26 =>
 k14 s25 x26))))))))))))) 100000 s13 (0 : Int32)))))))))
def f_X11_copies__6_4 (σ : St) (x1 x2 x3 : Int32) : Ot :=
 lq1 (fun k4 s6 x5 =>
 (if x3 ≤ x5 then
 some ((0 : Int32), s6)
 else
 gd ((x2 + x5)) 22 (gd ((x1 + x5)) 44 (nm (ps s6 6 ((x1 + x5)) ((s6 4 (Int32.toNatClampNeg (x2 + x5))))) (fun s7 =>
 nm (x5 + (1 : Int32)) (fun x8 =>
 k4 s7 x8)))))) 100000 σ (0 : Int32)
def f_X11_keep__0 (σ : St) : Ot :=
 (if (σ 0 11) = (2 : Int32) then
 some ((-3 : Int32), σ)
 else
 bnd (f_X11_copies__6_4 σ (((22 : Int32) * (σ 0 11))) (0 : Int32) (22 : Int32)) (fun r1 s2 =>
 nm (pf s2 0 11 (((s2 0 11) + (1 : Int32)))) (fun s3 =>
 some ((s3 0 11), s3))))
def f_X11_copies__4_6 (σ : St) (x1 x2 x3 : Int32) : Ot :=
 lq1 (fun k4 s6 x5 =>
 (if x3 ≤ x5 then
 some ((0 : Int32), s6)
 else
 gd ((x2 + x5)) 44 (gd ((x1 + x5)) 22 (nm (ps s6 4 ((x1 + x5)) ((s6 6 (Int32.toNatClampNeg (x2 + x5))))) (fun s7 =>
 nm (x5 + (1 : Int32)) (fun x8 =>
 k4 s7 x8)))))) 100000 σ (0 : Int32)
def f_X11_back__0 (σ : St) : Ot :=
 (if (σ 0 11) = (0 : Int32) then
 some ((-2 : Int32), σ)
 else
 nm (pf σ 0 11 (((σ 0 11) - (1 : Int32)))) (fun s1 =>
 bnd (f_X11_copies__4_6 s1 (0 : Int32) (((22 : Int32) * (s1 0 11))) (22 : Int32)) (fun r2 s3 =>
 nm (pf s3 0 9 (0 : Int32)) (fun s4 =>
 some ((s4 0 11), s4)))))
def f_X11_count__0 (σ : St) (x1 : Int32) : Ot :=
 bnd (f_X11_asItIs__0 σ) (fun r2 s3 =>
 (if x1 = (0 : Int32) then
 some ((s3 0 2), s3)
 else
 (if x1 = (1 : Int32) then
 some ((s3 0 0), s3)
 else
 (if x1 = (2 : Int32) then
 some ((s3 0 4), s3)
 else
 (if x1 = (3 : Int32) then
 some ((s3 0 6), s3)
 else
 (if x1 = (4 : Int32) then
 gd ((0 : Int32)) 22 (some ((s3 4 (Int32.toNatClampNeg (0 : Int32))), s3))
 else
 (if x1 = (5 : Int32) then
 bnd (f_X11_knowers__0 s3) (fun r5 s6 =>
 some (r5, s6))
 else
 (if x1 = (6 : Int32) then
 some ((s3 0 13), s3)
 else
 (if x1 = (7 : Int32) then
 some ((s3 0 9), s3)
 else
 (if x1 = (8 : Int32) then
 some ((s3 0 11), s3)
 else
 (if x1 = (9 : Int32) then
 some ((s3 0 16), s3)
 else
 some ((-1 : Int32), s3))))))))))))
def f_X10_within (σ : St) (x1 x2 x3 : Int32) : Ot :=
 jq0 (fun s5 =>
 some ((0 : Int32), s5)) (fun k4 =>
 (if x1 < x2 then
 k4 σ
 else
 (if x3 < x1 then
 k4 σ
 else
 some ((1 : Int32), σ))))
def f_X10_put__2 (σ : St) (x1 x2 : Int32) : Ot :=
 (if x1 < (0 : Int32) then
 some ((0 : Int32), σ)
 else
 (if (200 : Int32) ≤ x1 then
 some ((0 : Int32), σ)
 else
 gd (x1) 200 (nm (ps σ 2 (x1) (x2)) (fun s3 =>
 some ((0 : Int32), s3)))))
def f_X7_add__1 (σ : St) (x1 : Int32) : Ot :=
 (if (σ 1 1) < (200 : Int32) then
 bnd (f_X10_put__2 σ ((σ 1 1)) x1) (fun r2 s3 =>
 nm (pf s3 1 1 (((s3 1 1) + (1 : Int32)))) (fun s4 =>
 some ((1 : Int32), s4)))
 else
 some ((0 : Int32), σ))
def f_X7_length__1 (σ : St) : Ot :=
 some ((σ 1 1), σ)
def f_X10_write__0 (σ : St) (x1 : Int32) : Ot :=
 bnd (f_X10_within σ x1 (32 : Int32) (126 : Int32)) (fun r2 s3 =>
 (if r2 = (0 : Int32) then
 some ((-1 : Int32), s3)
 else
 bnd (f_X7_add__1 s3 x1) (fun r4 s5 =>
 (if r4 = (0 : Int32) then
 some ((-3 : Int32), s5)
 else
 bnd (f_X7_length__1 s5) (fun r6 s7 =>
 some (r6, s7))))))
def f_X7_clear__1 (σ : St) : Ot :=
 nm (pf σ 1 1 (0 : Int32)) (fun s1 =>
 some ((0 : Int32), s1))
def f_X10_wipe__0 (σ : St) : Ot :=
 bnd (f_X7_length__1 σ) (fun r1 s2 =>
 bnd (f_X7_clear__1 s2) (fun r3 s4 =>
 some (r1, s4)))
def f_X10_fill__6 (σ : St) (x1 : Int32) : Ot :=
 lq1 (fun k2 s4 x3 =>
 (if (16 : Int32) ≤ x3 then
 some ((0 : Int32), s4)
 else
 gd (x3) 16 (nm (ps s4 6 (x3) (x1)) (fun s5 =>
 nm (x3 + (1 : Int32)) (fun x6 =>
 k2 s5 x6))))) 100000 σ (0 : Int32)
def f_X10_fill__7 (σ : St) (x1 : Int32) : Ot :=
 lq1 (fun k2 s4 x3 =>
 (if (16 : Int32) ≤ x3 then
 some ((0 : Int32), s4)
 else
 gd (x3) 16 (nm (ps s4 7 (x3) (x1)) (fun s5 =>
 nm (x3 + (1 : Int32)) (fun x6 =>
 k2 s5 x6))))) 100000 σ (0 : Int32)
def f_X10_fill__11 (σ : St) (x1 : Int32) : Ot :=
 lq1 (fun k2 s4 x3 =>
 (if (8 : Int32) ≤ x3 then
 some ((0 : Int32), s4)
 else
 gd (x3) 8 (nm (ps s4 11 (x3) (x1)) (fun s5 =>
 nm (x3 + (1 : Int32)) (fun x6 =>
 k2 s5 x6))))) 100000 σ (0 : Int32)
def f_X10_bit (σ : St) (x1 : Int32) : Ot :=
 jq0 (fun s3 =>
 some ((0 : Int32), s3)) (fun k2 =>
 (if x1 < (0 : Int32) then
 k2 σ
 else
 (if (16 : Int32) ≤ x1 then
 k2 σ
 else
 some (((1 : Int32) <<< (x1 &&& 31)), σ))))
def f_X4_takeGrid__5 (σ : St) (x1 x2 : Int32) : Ot :=
 bnd (f_X10_within σ x1 (1 : Int32) (4 : Int32)) (fun r3 s4 =>
 (if r3 = (0 : Int32) then
 some ((0 : Int32), s4)
 else
 bnd (f_X10_within s4 x2 (1 : Int32) (4 : Int32)) (fun r5 s6 =>
 (if r5 = (0 : Int32) then
 some ((0 : Int32), s6)
 else
 nm (pf s6 5 6 x1) (fun s7 =>
 nm (pf s7 5 7 x2) (fun s8 =>
 nm (pf s8 5 8 (0 : Int32)) (fun s9 =>
 lq1 (fun k10 s12 x11 =>
 (if (s12 5 6) ≤ x11 then
 nm (pf s12 5 9 (((s12 5 8) <<< (((s12 5 7) - (1 : Int32)) &&& 31)))) (fun s13 =>
 some ((1 : Int32), s13))
 else
 bnd (f_X10_bit s12 ((x11 * (s12 5 7)))) (fun r14 s15 =>
 nm (pf s15 5 8 (((s12 5 8) ||| r14))) (fun s16 =>
 nm (x11 + (1 : Int32)) (fun x17 =>
 k10 s16 x17))))) 100000 s9 (0 : Int32))))))))
def f_X4_clear__5 (σ : St) : Ot :=
 bnd (f_X10_fill__6 σ (0 : Int32)) (fun r1 s2 =>
 bnd (f_X10_fill__7 s2 (2 : Int32)) (fun r3 s4 =>
 bnd (f_X10_fill__11 s4 (0 : Int32)) (fun r5 s6 =>
 nm (pf s6 5 10 (0 : Int32)) (fun s7 =>
 nm (pf s7 5 11 (0 : Int32)) (fun s8 =>
 nm (pf s8 5 12 (1 : Int32)) (fun s9 =>
 bnd (f_X4_takeGrid__5 s9 (3 : Int32) (4 : Int32)) (fun r10 s11 =>
 some ((0 : Int32), s11))))))))
def f_X10_at__2 (σ : St) (x1 : Int32) : Ot :=
 jq0 (fun s3 =>
 some ((0 : Int32), s3)) (fun k2 =>
 (if x1 < (0 : Int32) then
 k2 σ
 else
 (if (200 : Int32) ≤ x1 then
 k2 σ
 else
 gd (x1) 200 (some ((σ 2 (Int32.toNatClampNeg x1)), σ)))))
def f_X7_letterAt__1 (σ : St) (x1 : Int32) : Ot :=
 (if (σ 1 1) ≤ x1 then
 some ((0 : Int32), σ)
 else
 bnd (f_X10_at__2 σ x1) (fun r2 s3 =>
 some (r2, s3)))
def f_X6_isFigure (σ : St) (x1 : Int32) : Ot :=
 bnd (f_X10_within σ x1 (48 : Int32) (57 : Int32)) (fun r2 s3 =>
 zg r2 (some (r2, s3)))
def f_X6_readNumber__3 (σ : St) : Ot :=
 bnd (f_X7_letterAt__1 σ ((σ 3 2))) (fun r1 s2 =>
 bnd (f_X6_isFigure s2 r1) (fun r3 s4 =>
 (if r3 = (0 : Int32) then
 some ((-1 : Int32), s4)
 else
 nm (pf s4 3 2 (((s4 3 2) + (1 : Int32)))) (fun s5 =>
 bnd (f_X7_letterAt__1 s5 ((s5 3 2))) (fun r6 s7 =>
 bnd (f_X6_isFigure s7 r6) (fun r8 s9 =>
 (if r8 = (0 : Int32) then
 some ((r1 - (48 : Int32)), s9)
 else
 nm (pf s9 3 2 (((s9 3 2) + (1 : Int32)))) (fun s10 =>
 some (((((10 : Int32) * (r1 - (48 : Int32))) + r6) - (48 : Int32)), s10)))))))))
def f_X10_put__4 (σ : St) (x1 x2 : Int32) : Ot :=
 (if x1 < (0 : Int32) then
 some ((0 : Int32), σ)
 else
 (if (3 : Int32) ≤ x1 then
 some ((0 : Int32), σ)
 else
 gd (x1) 3 (nm (ps σ 4 (x1) (x2)) (fun s3 =>
 some ((0 : Int32), s3)))))
def f_X6_readNumbers__3 (σ : St) : Ot :=
 lq1 (fun k1 s3 x2 =>
 (if (3 : Int32) ≤ x2 then
 some ((0 : Int32), s3)
 else
 bnd (f_X6_readNumber__3 s3) (fun r4 s5 =>
 (if (0 : Int32) ≤ r4 then
 bnd (f_X10_put__4 s5 x2 r4) (fun r6 s7 =>
 bnd (f_X7_letterAt__1 s7 ((s7 3 2))) (fun r8 s9 =>
 nm (pf s9 3 2 (((s9 3 2) + (1 : Int32)))) (fun s10 =>
 (if r8 = (59 : Int32) then
 some ((x2 + (1 : Int32)), s10)
 else
 (if r8 = (44 : Int32) then
 nm (x2 + (1 : Int32)) (fun x11 =>
 k1 s10 x11)
 else
 some ((0 : Int32), s10))))))
 else
 some ((0 : Int32), s5))))) 100000 σ (0 : Int32)
def f_X10_at__4 (σ : St) (x1 : Int32) : Ot :=
 jq0 (fun s3 =>
 some ((0 : Int32), s3)) (fun k2 =>
 (if x1 < (0 : Int32) then
 k2 σ
 else
 (if (3 : Int32) ≤ x1 then
 k2 σ
 else
 gd (x1) 3 (some ((σ 4 (Int32.toNatClampNeg x1)), σ)))))
def f_X4_houses__5 (σ : St) : Ot :=
 some (((σ 5 6) * (σ 5 7)), σ)
def f_X4_hasHouse__5 (σ : St) (x1 : Int32) : Ot :=
 jq0 (fun s3 =>
 some ((0 : Int32), s3)) (fun k2 =>
 (if x1 < (0 : Int32) then
 k2 σ
 else
 bnd (f_X4_houses__5 σ) (fun r4 s5 =>
 (if r4 ≤ x1 then
 k2 s5
 else
 some ((1 : Int32), s5)))))
def f_X10_isWidth (σ : St) (x1 : Int32) : Ot :=
 bnd (f_X10_within σ x1 (0 : Int32) (6 : Int32)) (fun r2 s3 =>
 zg r2 (some (r2, s3)))
def f_X10_put__6 (σ : St) (x1 x2 : Int32) : Ot :=
 (if x1 < (0 : Int32) then
 some ((0 : Int32), σ)
 else
 (if (16 : Int32) ≤ x1 then
 some ((0 : Int32), σ)
 else
 gd (x1) 16 (nm (ps σ 6 (x1) (x2)) (fun s3 =>
 some ((0 : Int32), s3)))))
def f_X10_put__7 (σ : St) (x1 x2 : Int32) : Ot :=
 (if x1 < (0 : Int32) then
 some ((0 : Int32), σ)
 else
 (if (16 : Int32) ≤ x1 then
 some ((0 : Int32), σ)
 else
 gd (x1) 16 (nm (ps σ 7 (x1) (x2)) (fun s3 =>
 some ((0 : Int32), s3)))))
def f_X4_takeHouse__5 (σ : St) (x1 x2 x3 : Int32) : Ot :=
 bnd (f_X4_hasHouse__5 σ x1) (fun r4 s5 =>
 (if r4 = (0 : Int32) then
 some ((0 : Int32), s5)
 else
 (if (4 : Int32) < x2 then
 some ((0 : Int32), s5)
 else
 bnd (f_X10_isWidth s5 x3) (fun r6 s7 =>
 (if r6 = (0 : Int32) then
 some ((0 : Int32), s7)
 else
 bnd (f_X10_put__6 s7 x1 x2) (fun r8 s9 =>
 bnd (f_X10_put__7 s9 x1 x3) (fun r10 s11 =>
 some ((1 : Int32), s11))))))))
def f_X10_put__8 (σ : St) (x1 x2 : Int32) : Ot :=
 (if x1 < (0 : Int32) then
 some ((0 : Int32), σ)
 else
 (if (5 : Int32) ≤ x1 then
 some ((0 : Int32), σ)
 else
 gd (x1) 5 (nm (ps σ 8 (x1) (x2)) (fun s3 =>
 some ((0 : Int32), s3)))))
def f_X10_put__9 (σ : St) (x1 x2 : Int32) : Ot :=
 (if x1 < (0 : Int32) then
 some ((0 : Int32), σ)
 else
 (if (5 : Int32) ≤ x1 then
 some ((0 : Int32), σ)
 else
 gd (x1) 5 (nm (ps σ 9 (x1) (x2)) (fun s3 =>
 some ((0 : Int32), s3)))))
def f_X10_put__10 (σ : St) (x1 x2 : Int32) : Ot :=
 (if x1 < (0 : Int32) then
 some ((0 : Int32), σ)
 else
 (if (5 : Int32) ≤ x1 then
 some ((0 : Int32), σ)
 else
 gd (x1) 5 (nm (ps σ 10 (x1) (x2)) (fun s3 =>
 some ((0 : Int32), s3)))))
def f_X4_takeNews__5 (σ : St) (x1 x2 x3 : Int32) : Ot :=
 (if (2 : Int32) < x1 then
 some ((0 : Int32), σ)
 else
 bnd (f_X10_within σ x2 (1 : Int32) (4 : Int32)) (fun r4 s5 =>
 (if r4 = (0 : Int32) then
 some ((0 : Int32), s5)
 else
 bnd (f_X4_hasHouse__5 s5 x3) (fun r6 s7 =>
 (if r6 = (0 : Int32) then
 some ((0 : Int32), s7)
 else
 (if (s7 5 10) < (5 : Int32) then
 bnd (f_X10_put__8 s7 ((s7 5 10)) x1) (fun r8 s9 =>
 bnd (f_X10_put__9 s9 ((s9 5 10)) x2) (fun r10 s11 =>
 bnd (f_X10_put__10 s11 ((s11 5 10)) x3) (fun r12 s13 =>
 nm (pf s13 5 10 (((s13 5 10) + (1 : Int32)))) (fun s14 =>
 some ((1 : Int32), s14)))))
 else
 some ((0 : Int32), s7)))))))
def f_X10_put__11 (σ : St) (x1 x2 : Int32) : Ot :=
 (if x1 < (0 : Int32) then
 some ((0 : Int32), σ)
 else
 (if (8 : Int32) ≤ x1 then
 some ((0 : Int32), σ)
 else
 gd (x1) 8 (nm (ps σ 11 (x1) (x2)) (fun s3 =>
 some ((0 : Int32), s3)))))
def f_X4_takeWind__5 (σ : St) (x1 : Int32) : Ot :=
 (if (4 : Int32) < x1 then
 some ((0 : Int32), σ)
 else
 (if (σ 5 11) < (8 : Int32) then
 bnd (f_X10_put__11 σ ((σ 5 11)) x1) (fun r2 s3 =>
 nm (pf s3 5 11 (((s3 5 11) + (1 : Int32)))) (fun s4 =>
 some ((1 : Int32), s4)))
 else
 some ((0 : Int32), σ)))
def f_X4_take__5_4 (σ : St) (x1 x2 : Int32) : Ot :=
 bnd (f_X10_at__4 σ (0 : Int32)) (fun r3 s4 =>
 bnd (f_X10_at__4 s4 (1 : Int32)) (fun r5 s6 =>
 bnd (f_X10_at__4 s6 (2 : Int32)) (fun r7 s8 =>
 (if x1 = (103 : Int32) then
 jq0 (fun s23 =>
 some ((0 : Int32), s23)) (fun k22 =>
 (if x2 = (2 : Int32) then
 (if (s8 5 12) = (0 : Int32) then
 k22 s8
 else
 bnd (f_X4_takeGrid__5 s8 r3 r5) (fun r24 s25 =>
 (if r24 = (0 : Int32) then
 k22 s25
 else
 some ((1 : Int32), s25))))
 else
 k22 s8))
 else
 nm (pf s8 5 12 (0 : Int32)) (fun s9 =>
 (if x1 = (104 : Int32) then
 jq0 (fun s11 =>
 some ((0 : Int32), s11)) (fun k10 =>
 (if x2 = (3 : Int32) then
 bnd (f_X4_takeHouse__5 s9 r3 r5 r7) (fun r12 s13 =>
 (if r12 = (0 : Int32) then
 k10 s13
 else
 some ((1 : Int32), s13)))
 else
 k10 s9))
 else
 (if x1 = (110 : Int32) then
 jq0 (fun s15 =>
 some ((0 : Int32), s15)) (fun k14 =>
 (if x2 = (3 : Int32) then
 bnd (f_X4_takeNews__5 s9 r3 r5 r7) (fun r16 s17 =>
 (if r16 = (0 : Int32) then
 k14 s17
 else
 some ((1 : Int32), s17)))
 else
 k14 s9))
 else
 (if x1 = (119 : Int32) then
 jq0 (fun s19 =>
 some ((0 : Int32), s19)) (fun k18 =>
 (if x2 = (1 : Int32) then
 bnd (f_X4_takeWind__5 s9 r3) (fun r20 s21 =>
 (if r20 = (0 : Int32) then
 k18 s21
 else
 some ((1 : Int32), s21)))
 else
 k18 s9))
 else
 some ((0 : Int32), s9)))))))))
def f_X6_readInto__3_5 (σ : St) : Ot :=
 bnd (f_X4_clear__5 σ) (fun r1 s2 =>
 nm (pf s2 3 2 (0 : Int32)) (fun s3 =>
 lq1 (fun k4 s6 x5 =>
 (if (200 : Int32) ≤ x5 then
 some ((-4 : Int32), s6)
 else
 bnd (f_X7_length__1 s6) (fun r7 s8 =>
 (if r7 ≤ (s6 3 2) then
 some ((-4 : Int32), s8)
 else
 nm ((s8 3 2)) (fun x9 =>
 nm (pf s8 3 2 (((s8 3 2) + (1 : Int32)))) (fun s10 =>
 bnd (f_X6_readNumbers__3 s10) (fun r11 s12 =>
 (if r11 = (0 : Int32) then
 some (x9, s12)
 else
 bnd (f_X7_letterAt__1 s12 x9) (fun r13 s14 =>
 bnd (f_X4_take__5_4 s14 r13 r11) (fun r15 s16 =>
 (if r15 = (0 : Int32) then
 some (x9, s16)
 else
 nm (x5 + (1 : Int32)) (fun x17 =>
 k4 s16 x17)))))))))))) 100000 s3 (0 : Int32)))
def f_X10_fault__0 (σ : St) : Ot :=
 bnd (f_X6_readInto__3_5 σ) (fun r1 s2 =>
 some (r1, s2))
def f_X4_newsTold__5 (σ : St) : Ot :=
 some ((σ 5 10), σ)
def f_X10_fill__13 (σ : St) (x1 : Int32) : Ot :=
 lq1 (fun k2 s4 x3 =>
 (if (16 : Int32) ≤ x3 then
 some ((0 : Int32), s4)
 else
 gd (x3) 16 (nm (ps s4 13 (x3) (x1)) (fun s5 =>
 nm (x3 + (1 : Int32)) (fun x6 =>
 k2 s5 x6))))) 100000 σ (0 : Int32)
def f_X10_fill__14 (σ : St) (x1 : Int32) : Ot :=
 lq1 (fun k2 s4 x3 =>
 (if (16 : Int32) ≤ x3 then
 some ((0 : Int32), s4)
 else
 gd (x3) 16 (nm (ps s4 14 (x3) (x1)) (fun s5 =>
 nm (x3 + (1 : Int32)) (fun x6 =>
 k2 s5 x6))))) 100000 σ (0 : Int32)
def f_X10_fill__18 (σ : St) (x1 : Int32) : Ot :=
 lq1 (fun k2 s4 x3 =>
 (if (8 : Int32) ≤ x3 then
 some ((0 : Int32), s4)
 else
 gd (x3) 8 (nm (ps s4 18 (x3) (x1)) (fun s5 =>
 nm (x3 + (1 : Int32)) (fun x6 =>
 k2 s5 x6))))) 100000 σ (0 : Int32)
def f_X4_takeGrid__12 (σ : St) (x1 x2 : Int32) : Ot :=
 bnd (f_X10_within σ x1 (1 : Int32) (4 : Int32)) (fun r3 s4 =>
 (if r3 = (0 : Int32) then
 some ((0 : Int32), s4)
 else
 bnd (f_X10_within s4 x2 (1 : Int32) (4 : Int32)) (fun r5 s6 =>
 (if r5 = (0 : Int32) then
 some ((0 : Int32), s6)
 else
 nm (pf s6 12 6 x1) (fun s7 =>
 nm (pf s7 12 7 x2) (fun s8 =>
 nm (pf s8 12 8 (0 : Int32)) (fun s9 =>
 lq1 (fun k10 s12 x11 =>
 (if (s12 12 6) ≤ x11 then
 nm (pf s12 12 9 (((s12 12 8) <<< (((s12 12 7) - (1 : Int32)) &&& 31)))) (fun s13 =>
 some ((1 : Int32), s13))
 else
 bnd (f_X10_bit s12 ((x11 * (s12 12 7)))) (fun r14 s15 =>
 nm (pf s15 12 8 (((s12 12 8) ||| r14))) (fun s16 =>
 nm (x11 + (1 : Int32)) (fun x17 =>
 k10 s16 x17))))) 100000 s9 (0 : Int32))))))))
def f_X4_clear__12 (σ : St) : Ot :=
 bnd (f_X10_fill__13 σ (0 : Int32)) (fun r1 s2 =>
 bnd (f_X10_fill__14 s2 (2 : Int32)) (fun r3 s4 =>
 bnd (f_X10_fill__18 s4 (0 : Int32)) (fun r5 s6 =>
 nm (pf s6 12 10 (0 : Int32)) (fun s7 =>
 nm (pf s7 12 11 (0 : Int32)) (fun s8 =>
 nm (pf s8 12 12 (1 : Int32)) (fun s9 =>
 bnd (f_X4_takeGrid__12 s9 (3 : Int32) (4 : Int32)) (fun r10 s11 =>
 some ((0 : Int32), s11))))))))
def f_X4_houses__12 (σ : St) : Ot :=
 some (((σ 12 6) * (σ 12 7)), σ)
def f_X4_hasHouse__12 (σ : St) (x1 : Int32) : Ot :=
 jq0 (fun s3 =>
 some ((0 : Int32), s3)) (fun k2 =>
 (if x1 < (0 : Int32) then
 k2 σ
 else
 bnd (f_X4_houses__12 σ) (fun r4 s5 =>
 (if r4 ≤ x1 then
 k2 s5
 else
 some ((1 : Int32), s5)))))
def f_X10_put__13 (σ : St) (x1 x2 : Int32) : Ot :=
 (if x1 < (0 : Int32) then
 some ((0 : Int32), σ)
 else
 (if (16 : Int32) ≤ x1 then
 some ((0 : Int32), σ)
 else
 gd (x1) 16 (nm (ps σ 13 (x1) (x2)) (fun s3 =>
 some ((0 : Int32), s3)))))
def f_X10_put__14 (σ : St) (x1 x2 : Int32) : Ot :=
 (if x1 < (0 : Int32) then
 some ((0 : Int32), σ)
 else
 (if (16 : Int32) ≤ x1 then
 some ((0 : Int32), σ)
 else
 gd (x1) 16 (nm (ps σ 14 (x1) (x2)) (fun s3 =>
 some ((0 : Int32), s3)))))
def f_X4_takeHouse__12 (σ : St) (x1 x2 x3 : Int32) : Ot :=
 bnd (f_X4_hasHouse__12 σ x1) (fun r4 s5 =>
 (if r4 = (0 : Int32) then
 some ((0 : Int32), s5)
 else
 (if (4 : Int32) < x2 then
 some ((0 : Int32), s5)
 else
 bnd (f_X10_isWidth s5 x3) (fun r6 s7 =>
 (if r6 = (0 : Int32) then
 some ((0 : Int32), s7)
 else
 bnd (f_X10_put__13 s7 x1 x2) (fun r8 s9 =>
 bnd (f_X10_put__14 s9 x1 x3) (fun r10 s11 =>
 some ((1 : Int32), s11))))))))
def f_X10_put__15 (σ : St) (x1 x2 : Int32) : Ot :=
 (if x1 < (0 : Int32) then
 some ((0 : Int32), σ)
 else
 (if (5 : Int32) ≤ x1 then
 some ((0 : Int32), σ)
 else
 gd (x1) 5 (nm (ps σ 15 (x1) (x2)) (fun s3 =>
 some ((0 : Int32), s3)))))
def f_X10_put__16 (σ : St) (x1 x2 : Int32) : Ot :=
 (if x1 < (0 : Int32) then
 some ((0 : Int32), σ)
 else
 (if (5 : Int32) ≤ x1 then
 some ((0 : Int32), σ)
 else
 gd (x1) 5 (nm (ps σ 16 (x1) (x2)) (fun s3 =>
 some ((0 : Int32), s3)))))
def f_X10_put__17 (σ : St) (x1 x2 : Int32) : Ot :=
 (if x1 < (0 : Int32) then
 some ((0 : Int32), σ)
 else
 (if (5 : Int32) ≤ x1 then
 some ((0 : Int32), σ)
 else
 gd (x1) 5 (nm (ps σ 17 (x1) (x2)) (fun s3 =>
 some ((0 : Int32), s3)))))
def f_X4_takeNews__12 (σ : St) (x1 x2 x3 : Int32) : Ot :=
 (if (2 : Int32) < x1 then
 some ((0 : Int32), σ)
 else
 bnd (f_X10_within σ x2 (1 : Int32) (4 : Int32)) (fun r4 s5 =>
 (if r4 = (0 : Int32) then
 some ((0 : Int32), s5)
 else
 bnd (f_X4_hasHouse__12 s5 x3) (fun r6 s7 =>
 (if r6 = (0 : Int32) then
 some ((0 : Int32), s7)
 else
 (if (s7 12 10) < (5 : Int32) then
 bnd (f_X10_put__15 s7 ((s7 12 10)) x1) (fun r8 s9 =>
 bnd (f_X10_put__16 s9 ((s9 12 10)) x2) (fun r10 s11 =>
 bnd (f_X10_put__17 s11 ((s11 12 10)) x3) (fun r12 s13 =>
 nm (pf s13 12 10 (((s13 12 10) + (1 : Int32)))) (fun s14 =>
 some ((1 : Int32), s14)))))
 else
 some ((0 : Int32), s7)))))))
def f_X10_put__18 (σ : St) (x1 x2 : Int32) : Ot :=
 (if x1 < (0 : Int32) then
 some ((0 : Int32), σ)
 else
 (if (8 : Int32) ≤ x1 then
 some ((0 : Int32), σ)
 else
 gd (x1) 8 (nm (ps σ 18 (x1) (x2)) (fun s3 =>
 some ((0 : Int32), s3)))))
def f_X4_takeWind__12 (σ : St) (x1 : Int32) : Ot :=
 (if (4 : Int32) < x1 then
 some ((0 : Int32), σ)
 else
 (if (σ 12 11) < (8 : Int32) then
 bnd (f_X10_put__18 σ ((σ 12 11)) x1) (fun r2 s3 =>
 nm (pf s3 12 11 (((s3 12 11) + (1 : Int32)))) (fun s4 =>
 some ((1 : Int32), s4)))
 else
 some ((0 : Int32), σ)))
def f_X4_take__12_4 (σ : St) (x1 x2 : Int32) : Ot :=
 bnd (f_X10_at__4 σ (0 : Int32)) (fun r3 s4 =>
 bnd (f_X10_at__4 s4 (1 : Int32)) (fun r5 s6 =>
 bnd (f_X10_at__4 s6 (2 : Int32)) (fun r7 s8 =>
 (if x1 = (103 : Int32) then
 jq0 (fun s23 =>
 some ((0 : Int32), s23)) (fun k22 =>
 (if x2 = (2 : Int32) then
 (if (s8 12 12) = (0 : Int32) then
 k22 s8
 else
 bnd (f_X4_takeGrid__12 s8 r3 r5) (fun r24 s25 =>
 (if r24 = (0 : Int32) then
 k22 s25
 else
 some ((1 : Int32), s25))))
 else
 k22 s8))
 else
 nm (pf s8 12 12 (0 : Int32)) (fun s9 =>
 (if x1 = (104 : Int32) then
 jq0 (fun s11 =>
 some ((0 : Int32), s11)) (fun k10 =>
 (if x2 = (3 : Int32) then
 bnd (f_X4_takeHouse__12 s9 r3 r5 r7) (fun r12 s13 =>
 (if r12 = (0 : Int32) then
 k10 s13
 else
 some ((1 : Int32), s13)))
 else
 k10 s9))
 else
 (if x1 = (110 : Int32) then
 jq0 (fun s15 =>
 some ((0 : Int32), s15)) (fun k14 =>
 (if x2 = (3 : Int32) then
 bnd (f_X4_takeNews__12 s9 r3 r5 r7) (fun r16 s17 =>
 (if r16 = (0 : Int32) then
 k14 s17
 else
 some ((1 : Int32), s17)))
 else
 k14 s9))
 else
 (if x1 = (119 : Int32) then
 jq0 (fun s19 =>
 some ((0 : Int32), s19)) (fun k18 =>
 (if x2 = (1 : Int32) then
 bnd (f_X4_takeWind__12 s9 r3) (fun r20 s21 =>
 (if r20 = (0 : Int32) then
 k18 s21
 else
 some ((1 : Int32), s21)))
 else
 k18 s9))
 else
 some ((0 : Int32), s9)))))))))
def f_X6_readInto__3_12 (σ : St) : Ot :=
 bnd (f_X4_clear__12 σ) (fun r1 s2 =>
 nm (pf s2 3 2 (0 : Int32)) (fun s3 =>
 lq1 (fun k4 s6 x5 =>
 (if (200 : Int32) ≤ x5 then
 some ((-4 : Int32), s6)
 else
 bnd (f_X7_length__1 s6) (fun r7 s8 =>
 (if r7 ≤ (s6 3 2) then
 some ((-4 : Int32), s8)
 else
 nm ((s8 3 2)) (fun x9 =>
 nm (pf s8 3 2 (((s8 3 2) + (1 : Int32)))) (fun s10 =>
 bnd (f_X6_readNumbers__3 s10) (fun r11 s12 =>
 (if r11 = (0 : Int32) then
 some (x9, s12)
 else
 bnd (f_X7_letterAt__1 s12 x9) (fun r13 s14 =>
 bnd (f_X4_take__12_4 s14 r13 r11) (fun r15 s16 =>
 (if r15 = (0 : Int32) then
 some (x9, s16)
 else
 nm (x5 + (1 : Int32)) (fun x17 =>
 k4 s16 x17)))))))))))) 100000 s3 (0 : Int32)))
def f_X10_put__21 (σ : St) (x1 x2 : Int32) : Ot :=
 (if x1 < (0 : Int32) then
 some ((0 : Int32), σ)
 else
 (if (5 : Int32) ≤ x1 then
 some ((0 : Int32), σ)
 else
 gd (x1) 5 (nm (ps σ 21 (x1) (x2)) (fun s3 =>
 some ((0 : Int32), s3)))))
def f_X4_hasNews__12 (σ : St) (x1 : Int32) : Ot :=
 jq0 (fun s3 =>
 some ((0 : Int32), s3)) (fun k2 =>
 (if x1 < (0 : Int32) then
 k2 σ
 else
 (if (σ 12 10) ≤ x1 then
 k2 σ
 else
 some ((1 : Int32), σ))))
def f_X10_at__17 (σ : St) (x1 : Int32) : Ot :=
 jq0 (fun s3 =>
 some ((0 : Int32), s3)) (fun k2 =>
 (if x1 < (0 : Int32) then
 k2 σ
 else
 (if (5 : Int32) ≤ x1 then
 k2 σ
 else
 gd (x1) 5 (some ((σ 17 (Int32.toNatClampNeg x1)), σ)))))
def f_X4_beginningOf__12 (σ : St) (x1 : Int32) : Ot :=
 bnd (f_X10_at__17 σ x1) (fun r2 s3 =>
 some (r2, s3))
def f_X10_at__14 (σ : St) (x1 : Int32) : Ot :=
 jq0 (fun s3 =>
 some ((0 : Int32), s3)) (fun k2 =>
 (if x1 < (0 : Int32) then
 k2 σ
 else
 (if (16 : Int32) ≤ x1 then
 k2 σ
 else
 gd (x1) 16 (some ((σ 14 (Int32.toNatClampNeg x1)), σ)))))
def f_X4_sashOf__12 (σ : St) (x1 : Int32) : Ot :=
 bnd (f_X10_at__14 σ x1) (fun r2 s3 =>
 some (r2, s3))
def f_X10_put__20 (σ : St) (x1 x2 : Int32) : Ot :=
 (if x1 < (0 : Int32) then
 some ((0 : Int32), σ)
 else
 (if (16 : Int32) ≤ x1 then
 some ((0 : Int32), σ)
 else
 gd (x1) 16 (nm (ps σ 20 (x1) (x2)) (fun s3 =>
 some ((0 : Int32), s3)))))
def f_X9_begin__19_12 (σ : St) : Ot :=
 lq1 (fun k1 s3 x2 =>
 (if (16 : Int32) ≤ x2 then
 lq1 (fun k4 s6 x5 =>
 (if (5 : Int32) ≤ x5 then
 nm (pf s6 19 2 (0 : Int32)) (fun s7 =>
 some ((0 : Int32), s7))
 else
 jq2 (fun s11 x9 x10 =>
 bnd (f_X10_put__21 s11 x10 x9) (fun r12 s13 =>
 nm (x5 + (1 : Int32)) (fun x14 =>
 k4 s13 x14))) (fun k8 =>
 bnd (f_X4_hasNews__12 s6 x5) (fun r15 s16 =>
 (if r15 = (0 : Int32) then
 k8 s16 (0 : Int32) x5
 else
 bnd (f_X4_beginningOf__12 s16 x5) (fun r17 s18 =>
 bnd (f_X10_bit s18 r17) (fun r19 s20 =>
 k8 s20 r19 x5))))))) 100000 s3 (0 : Int32)
 else
 bnd (f_X4_sashOf__12 s3 x2) (fun r21 s22 =>
 bnd (f_X10_put__20 s22 x2 r21) (fun r23 s24 =>
 nm (x2 + (1 : Int32)) (fun x25 =>
 k1 s24 x25))))) 100000 σ (0 : Int32)
def f_X5_clear__22 (σ : St) : Ot :=
 nm (pf σ 22 2 (0 : Int32)) (fun s1 =>
 some ((0 : Int32), s1))
def f_X5_clear__48 (σ : St) : Ot :=
 nm (pf σ 48 2 (0 : Int32)) (fun s1 =>
 some ((0 : Int32), s1))
def f_X8_clear__62 (σ : St) : Ot :=
 nm (pf σ 62 6 (0 : Int32)) (fun s1 =>
 some ((0 : Int32), s1))
def f_X10_layText__0 (σ : St) : Ot :=
 bnd (f_X6_readInto__3_5 σ) (fun r1 s2 =>
 (if r1 = (-4 : Int32) then
 bnd (f_X4_newsTold__5 s2) (fun r3 s4 =>
 (if r3 = (0 : Int32) then
 some ((0 : Int32), s4)
 else
 bnd (f_X6_readInto__3_12 s4) (fun r5 s6 =>
 bnd (f_X9_begin__19_12 s6) (fun r7 s8 =>
 bnd (f_X5_clear__22 s8) (fun r9 s10 =>
 bnd (f_X5_clear__48 s10) (fun r11 s12 =>
 bnd (f_X8_clear__62 s12) (fun r13 s14 =>
 some ((1 : Int32), s14))))))))
 else
 some ((0 : Int32), s2)))
def f_X10_lay__0 (σ : St) : Ot :=
 bnd (f_X10_layText__0 σ) (fun r1 s2 =>
 (if r1 = (0 : Int32) then
 some ((-2 : Int32), s2)
 else
 bnd (f_X4_houses__12 s2) (fun r3 s4 =>
 some (r3, s4))))
def f_X10_at__13 (σ : St) (x1 : Int32) : Ot :=
 jq0 (fun s3 =>
 some ((0 : Int32), s3)) (fun k2 =>
 (if x1 < (0 : Int32) then
 k2 σ
 else
 (if (16 : Int32) ≤ x1 then
 k2 σ
 else
 gd (x1) 16 (some ((σ 13 (Int32.toNatClampNeg x1)), σ)))))
def f_X4_kindOf__12 (σ : St) (x1 : Int32) : Ot :=
 bnd (f_X10_at__13 σ x1) (fun r2 s3 =>
 some (r2, s3))
def f_X10_at__20 (σ : St) (x1 : Int32) : Ot :=
 jq0 (fun s3 =>
 some ((0 : Int32), s3)) (fun k2 =>
 (if x1 < (0 : Int32) then
 k2 σ
 else
 (if (16 : Int32) ≤ x1 then
 k2 σ
 else
 gd (x1) 16 (some ((σ 20 (Int32.toNatClampNeg x1)), σ)))))
def f_X9_sashOf__19 (σ : St) (x1 : Int32) : Ot :=
 bnd (f_X10_at__20 σ x1) (fun r2 s3 =>
 some (r2, s3))
def f_X10_at__21 (σ : St) (x1 : Int32) : Ot :=
 jq0 (fun s3 =>
 some ((0 : Int32), s3)) (fun k2 =>
 (if x1 < (0 : Int32) then
 k2 σ
 else
 (if (5 : Int32) ≤ x1 then
 k2 σ
 else
 gd (x1) 5 (some ((σ 21 (Int32.toNatClampNeg x1)), σ)))))
def f_X9_whoKnows__19 (σ : St) (x1 : Int32) : Ot :=
 bnd (f_X10_at__21 σ x1) (fun r2 s3 =>
 some (r2, s3))
def f_X10_holds (σ : St) (x1 x2 : Int32) : Ot :=
 bnd (f_X10_bit σ x2) (fun r3 s4 =>
 (if (x1 &&& r3) = (0 : Int32) then
 some ((0 : Int32), s4)
 else
 some ((1 : Int32), s4)))
def f_X9_knownIn__19 (σ : St) (x1 : Int32) : Ot :=
 lq2 (fun k2 s5 x3 x4 =>
 (if (5 : Int32) ≤ x4 then
 some (x3, s5)
 else
 jq1 (fun s8 x7 =>
 nm (x4 + (1 : Int32)) (fun x9 =>
 k2 s8 x7 x9)) (fun k6 =>
 bnd (f_X9_whoKnows__19 s5 x4) (fun r10 s11 =>
 bnd (f_X10_holds s11 r10 x1) (fun r12 s13 =>
 (if r12 = (0 : Int32) then
 k6 s13 x3
 else
 bnd (f_X10_bit s13 x4) (fun r14 s15 =>
 nm ((x3 ||| r14)) (fun x16 =>
 k6 s15 x16)))))))) 100000 σ (0 : Int32) (0 : Int32)
def f_X10_house__0 (σ : St) (x1 x2 : Int32) : Ot :=
 bnd (f_X4_hasHouse__12 σ x1) (fun r3 s4 =>
 (if r3 = (0 : Int32) then
 some ((-1 : Int32), s4)
 else
 (if x2 = (0 : Int32) then
 bnd (f_X4_kindOf__12 s4 x1) (fun r6 s7 =>
 some (r6, s7))
 else
 (if x2 = (1 : Int32) then
 bnd (f_X9_sashOf__19 s4 x1) (fun r8 s9 =>
 some (r8, s9))
 else
 (if x2 = (2 : Int32) then
 bnd (f_X9_knownIn__19 s4 x1) (fun r10 s11 =>
 some (r10, s11))
 else
 some ((-1 : Int32), s4))))))
def f_X10_at__15 (σ : St) (x1 : Int32) : Ot :=
 jq0 (fun s3 =>
 some ((0 : Int32), s3)) (fun k2 =>
 (if x1 < (0 : Int32) then
 k2 σ
 else
 (if (5 : Int32) ≤ x1 then
 k2 σ
 else
 gd (x1) 5 (some ((σ 15 (Int32.toNatClampNeg x1)), σ)))))
def f_X4_newsKindOf__12 (σ : St) (x1 : Int32) : Ot :=
 bnd (f_X10_at__15 σ x1) (fun r2 s3 =>
 some (r2, s3))
def f_X10_at__16 (σ : St) (x1 : Int32) : Ot :=
 jq0 (fun s3 =>
 some ((0 : Int32), s3)) (fun k2 =>
 (if x1 < (0 : Int32) then
 k2 σ
 else
 (if (5 : Int32) ≤ x1 then
 k2 σ
 else
 gd (x1) 5 (some ((σ 16 (Int32.toNatClampNeg x1)), σ)))))
def f_X4_weightOf__12 (σ : St) (x1 : Int32) : Ot :=
 bnd (f_X10_at__16 σ x1) (fun r2 s3 =>
 some (r2, s3))
def f_J6_bitCount_0f7a4 (σ : St) (x1 : Int32) : Ot :=
 nm ((x1 - (((x1.toUInt32 >>> ((1 : Int32).toUInt32 &&& Int32.toUInt32 31)).toInt32) &&& (1431655765 : Int32)))) (fun x2 =>
 nm (((x2 &&& (858993459 : Int32)) + (((x2.toUInt32 >>> ((2 : Int32).toUInt32 &&& Int32.toUInt32 31)).toInt32) &&& (858993459 : Int32)))) (fun x3 =>
 nm (((x3 + ((x3.toUInt32 >>> ((4 : Int32).toUInt32 &&& Int32.toUInt32 31)).toInt32)) &&& (252645135 : Int32))) (fun x4 =>
 nm ((x4 + ((x4.toUInt32 >>> ((8 : Int32).toUInt32 &&& Int32.toUInt32 31)).toInt32))) (fun x5 =>
 nm ((x5 + ((x5.toUInt32 >>> ((16 : Int32).toUInt32 &&& Int32.toUInt32 31)).toInt32))) (fun x6 =>
 some ((x6 &&& (63 : Int32)), σ))))))
def f_X10_news__0 (σ : St) (x1 x2 : Int32) : Ot :=
 bnd (f_X4_hasNews__12 σ x1) (fun r3 s4 =>
 (if r3 = (0 : Int32) then
 some ((-1 : Int32), s4)
 else
 (if x2 = (0 : Int32) then
 bnd (f_X4_newsKindOf__12 s4 x1) (fun r6 s7 =>
 some (r6, s7))
 else
 (if x2 = (1 : Int32) then
 bnd (f_X4_weightOf__12 s4 x1) (fun r8 s9 =>
 some (r8, s9))
 else
 (if x2 = (2 : Int32) then
 bnd (f_X4_beginningOf__12 s4 x1) (fun r10 s11 =>
 some (r10, s11))
 else
 (if x2 = (3 : Int32) then
 bnd (f_X9_whoKnows__19 s4 x1) (fun r12 s13 =>
 bnd (f_J6_bitCount_0f7a4 s13 r12) (fun r14 s15 =>
 some (r14, s15)))
 else
 some ((-1 : Int32), s4)))))))
def f_X9_stepsGone__19 (σ : St) : Ot :=
 some ((σ 19 2), σ)
def f_X4_windsInTurn__12 (σ : St) : Ot :=
 (if (σ 12 11) = (0 : Int32) then
 some ((1 : Int32), σ)
 else
 some ((σ 12 11), σ))
def f_J9_floorMod_7cf53 (σ : St) (x1 x2 : Int32) : Ot :=
 nz (x2) (nm ((x1 - x1 / x2 * x2)) (fun x3 =>
 (if (0 : Int32) ≤ (x1 ^^^ x2) then
 some (x3, σ)
 else
 (if x3 = (0 : Int32) then
 some (x3, σ)
 else
 some ((x3 + x2), σ)))))
def f_X10_at__18 (σ : St) (x1 : Int32) : Ot :=
 jq0 (fun s3 =>
 some ((0 : Int32), s3)) (fun k2 =>
 (if x1 < (0 : Int32) then
 k2 σ
 else
 (if (8 : Int32) ≤ x1 then
 k2 σ
 else
 gd (x1) 8 (some ((σ 18 (Int32.toNatClampNeg x1)), σ)))))
def f_X4_windOf__12 (σ : St) (x1 : Int32) : Ot :=
 bnd (f_X4_windsInTurn__12 σ) (fun r2 s3 =>
 (if r2 ≤ (0 : Int32) then
 some ((0 : Int32), s3)
 else
 bnd (f_J9_floorMod_7cf53 s3 x1 r2) (fun r4 s5 =>
 bnd (f_X10_at__18 s5 r4) (fun r6 s7 =>
 some (r6, s7)))))
def f_X10_wind__0 (σ : St) (x1 : Int32) : Ot :=
 bnd (f_X10_within σ x1 (0 : Int32) (99 : Int32)) (fun r2 s3 =>
 (if r2 = (0 : Int32) then
 some ((-1 : Int32), s3)
 else
 bnd (f_X9_stepsGone__19 s3) (fun r4 s5 =>
 bnd (f_X4_windOf__12 s5 ((r4 + x1))) (fun r6 s7 =>
 some (r6, s7)))))
def f_X5_placeOf__22 (σ : St) (x1 : Int32) : Ot :=
 (if (8 : Int32) = (0 : Int32) then
 none
 else
 jq0 (fun s3 =>
 none) (fun k2 =>
 bnd (f_J9_floorMod_7cf53 σ (((σ 22 1) + x1)) (8 : Int32)) (fun r4 s5 =>
 (if r4 < (0 : Int32) then
 k2 s5
 else
 (if (8 : Int32) ≤ r4 then
 k2 s5
 else
 (if r4 = (0 : Int32) then
 some ((24 : Int32), s5)
 else
 (if r4 = (1 : Int32) then
 some ((27 : Int32), s5)
 else
 (if r4 = (2 : Int32) then
 some ((30 : Int32), s5)
 else
 (if r4 = (3 : Int32) then
 some ((33 : Int32), s5)
 else
 (if r4 = (4 : Int32) then
 some ((36 : Int32), s5)
 else
 (if r4 = (5 : Int32) then
 some ((39 : Int32), s5)
 else
 (if r4 = (6 : Int32) then
 some ((42 : Int32), s5)
 else
 (if r4 = (7 : Int32) then
 some ((45 : Int32), s5)
 else
 none)))))))))))))
def f_X10_copy__20_25 (σ : St) : Ot :=
 lq1 (fun k1 s3 x2 =>
 (if (16 : Int32) ≤ x2 then
 some ((0 : Int32), s3)
 else
 bnd (f_X10_at__20 s3 x2) (fun r4 s5 =>
 gd (x2) 16 (nm (ps s5 25 (x2) (r4)) (fun s6 =>
 nm (x2 + (1 : Int32)) (fun x7 =>
 k1 s6 x7)))))) 100000 σ (0 : Int32)
def f_X10_copy__21_26 (σ : St) : Ot :=
 lq1 (fun k1 s3 x2 =>
 (if (5 : Int32) ≤ x2 then
 some ((0 : Int32), s3)
 else
 bnd (f_X10_at__21 s3 x2) (fun r4 s5 =>
 gd (x2) 5 (nm (ps s5 26 (x2) (r4)) (fun s6 =>
 nm (x2 + (1 : Int32)) (fun x7 =>
 k1 s6 x7)))))) 100000 σ (0 : Int32)
def f_X9_copyOf__24_19 (σ : St) : Ot :=
 bnd (f_X10_copy__20_25 σ) (fun r1 s2 =>
 bnd (f_X10_copy__21_26 s2) (fun r3 s4 =>
 nm (pf s4 24 2 ((s4 19 2))) (fun s5 =>
 some ((0 : Int32), s5))))
def f_X5_isFull__22 (σ : St) : Ot :=
 (if (σ 22 2) = (8 : Int32) then
 some ((1 : Int32), σ)
 else
 some ((0 : Int32), σ))
def f_X10_copy__20_28 (σ : St) : Ot :=
 lq1 (fun k1 s3 x2 =>
 (if (16 : Int32) ≤ x2 then
 some ((0 : Int32), s3)
 else
 bnd (f_X10_at__20 s3 x2) (fun r4 s5 =>
 gd (x2) 16 (nm (ps s5 28 (x2) (r4)) (fun s6 =>
 nm (x2 + (1 : Int32)) (fun x7 =>
 k1 s6 x7)))))) 100000 σ (0 : Int32)
def f_X10_copy__21_29 (σ : St) : Ot :=
 lq1 (fun k1 s3 x2 =>
 (if (5 : Int32) ≤ x2 then
 some ((0 : Int32), s3)
 else
 bnd (f_X10_at__21 s3 x2) (fun r4 s5 =>
 gd (x2) 5 (nm (ps s5 29 (x2) (r4)) (fun s6 =>
 nm (x2 + (1 : Int32)) (fun x7 =>
 k1 s6 x7)))))) 100000 σ (0 : Int32)
def f_X9_copyOf__27_19 (σ : St) : Ot :=
 bnd (f_X10_copy__20_28 σ) (fun r1 s2 =>
 bnd (f_X10_copy__21_29 s2) (fun r3 s4 =>
 nm (pf s4 27 2 ((s4 19 2))) (fun s5 =>
 some ((0 : Int32), s5))))
def f_X10_copy__20_31 (σ : St) : Ot :=
 lq1 (fun k1 s3 x2 =>
 (if (16 : Int32) ≤ x2 then
 some ((0 : Int32), s3)
 else
 bnd (f_X10_at__20 s3 x2) (fun r4 s5 =>
 gd (x2) 16 (nm (ps s5 31 (x2) (r4)) (fun s6 =>
 nm (x2 + (1 : Int32)) (fun x7 =>
 k1 s6 x7)))))) 100000 σ (0 : Int32)
def f_X10_copy__21_32 (σ : St) : Ot :=
 lq1 (fun k1 s3 x2 =>
 (if (5 : Int32) ≤ x2 then
 some ((0 : Int32), s3)
 else
 bnd (f_X10_at__21 s3 x2) (fun r4 s5 =>
 gd (x2) 5 (nm (ps s5 32 (x2) (r4)) (fun s6 =>
 nm (x2 + (1 : Int32)) (fun x7 =>
 k1 s6 x7)))))) 100000 σ (0 : Int32)
def f_X9_copyOf__30_19 (σ : St) : Ot :=
 bnd (f_X10_copy__20_31 σ) (fun r1 s2 =>
 bnd (f_X10_copy__21_32 s2) (fun r3 s4 =>
 nm (pf s4 30 2 ((s4 19 2))) (fun s5 =>
 some ((0 : Int32), s5))))
def f_X10_copy__20_34 (σ : St) : Ot :=
 lq1 (fun k1 s3 x2 =>
 (if (16 : Int32) ≤ x2 then
 some ((0 : Int32), s3)
 else
 bnd (f_X10_at__20 s3 x2) (fun r4 s5 =>
 gd (x2) 16 (nm (ps s5 34 (x2) (r4)) (fun s6 =>
 nm (x2 + (1 : Int32)) (fun x7 =>
 k1 s6 x7)))))) 100000 σ (0 : Int32)
def f_X10_copy__21_35 (σ : St) : Ot :=
 lq1 (fun k1 s3 x2 =>
 (if (5 : Int32) ≤ x2 then
 some ((0 : Int32), s3)
 else
 bnd (f_X10_at__21 s3 x2) (fun r4 s5 =>
 gd (x2) 5 (nm (ps s5 35 (x2) (r4)) (fun s6 =>
 nm (x2 + (1 : Int32)) (fun x7 =>
 k1 s6 x7)))))) 100000 σ (0 : Int32)
def f_X9_copyOf__33_19 (σ : St) : Ot :=
 bnd (f_X10_copy__20_34 σ) (fun r1 s2 =>
 bnd (f_X10_copy__21_35 s2) (fun r3 s4 =>
 nm (pf s4 33 2 ((s4 19 2))) (fun s5 =>
 some ((0 : Int32), s5))))
def f_X10_copy__20_37 (σ : St) : Ot :=
 lq1 (fun k1 s3 x2 =>
 (if (16 : Int32) ≤ x2 then
 some ((0 : Int32), s3)
 else
 bnd (f_X10_at__20 s3 x2) (fun r4 s5 =>
 gd (x2) 16 (nm (ps s5 37 (x2) (r4)) (fun s6 =>
 nm (x2 + (1 : Int32)) (fun x7 =>
 k1 s6 x7)))))) 100000 σ (0 : Int32)
def f_X10_copy__21_38 (σ : St) : Ot :=
 lq1 (fun k1 s3 x2 =>
 (if (5 : Int32) ≤ x2 then
 some ((0 : Int32), s3)
 else
 bnd (f_X10_at__21 s3 x2) (fun r4 s5 =>
 gd (x2) 5 (nm (ps s5 38 (x2) (r4)) (fun s6 =>
 nm (x2 + (1 : Int32)) (fun x7 =>
 k1 s6 x7)))))) 100000 σ (0 : Int32)
def f_X9_copyOf__36_19 (σ : St) : Ot :=
 bnd (f_X10_copy__20_37 σ) (fun r1 s2 =>
 bnd (f_X10_copy__21_38 s2) (fun r3 s4 =>
 nm (pf s4 36 2 ((s4 19 2))) (fun s5 =>
 some ((0 : Int32), s5))))
def f_X10_copy__20_40 (σ : St) : Ot :=
 lq1 (fun k1 s3 x2 =>
 (if (16 : Int32) ≤ x2 then
 some ((0 : Int32), s3)
 else
 bnd (f_X10_at__20 s3 x2) (fun r4 s5 =>
 gd (x2) 16 (nm (ps s5 40 (x2) (r4)) (fun s6 =>
 nm (x2 + (1 : Int32)) (fun x7 =>
 k1 s6 x7)))))) 100000 σ (0 : Int32)
def f_X10_copy__21_41 (σ : St) : Ot :=
 lq1 (fun k1 s3 x2 =>
 (if (5 : Int32) ≤ x2 then
 some ((0 : Int32), s3)
 else
 bnd (f_X10_at__21 s3 x2) (fun r4 s5 =>
 gd (x2) 5 (nm (ps s5 41 (x2) (r4)) (fun s6 =>
 nm (x2 + (1 : Int32)) (fun x7 =>
 k1 s6 x7)))))) 100000 σ (0 : Int32)
def f_X9_copyOf__39_19 (σ : St) : Ot :=
 bnd (f_X10_copy__20_40 σ) (fun r1 s2 =>
 bnd (f_X10_copy__21_41 s2) (fun r3 s4 =>
 nm (pf s4 39 2 ((s4 19 2))) (fun s5 =>
 some ((0 : Int32), s5))))
def f_X10_copy__20_43 (σ : St) : Ot :=
 lq1 (fun k1 s3 x2 =>
 (if (16 : Int32) ≤ x2 then
 some ((0 : Int32), s3)
 else
 bnd (f_X10_at__20 s3 x2) (fun r4 s5 =>
 gd (x2) 16 (nm (ps s5 43 (x2) (r4)) (fun s6 =>
 nm (x2 + (1 : Int32)) (fun x7 =>
 k1 s6 x7)))))) 100000 σ (0 : Int32)
def f_X10_copy__21_44 (σ : St) : Ot :=
 lq1 (fun k1 s3 x2 =>
 (if (5 : Int32) ≤ x2 then
 some ((0 : Int32), s3)
 else
 bnd (f_X10_at__21 s3 x2) (fun r4 s5 =>
 gd (x2) 5 (nm (ps s5 44 (x2) (r4)) (fun s6 =>
 nm (x2 + (1 : Int32)) (fun x7 =>
 k1 s6 x7)))))) 100000 σ (0 : Int32)
def f_X9_copyOf__42_19 (σ : St) : Ot :=
 bnd (f_X10_copy__20_43 σ) (fun r1 s2 =>
 bnd (f_X10_copy__21_44 s2) (fun r3 s4 =>
 nm (pf s4 42 2 ((s4 19 2))) (fun s5 =>
 some ((0 : Int32), s5))))
def f_X10_copy__20_46 (σ : St) : Ot :=
 lq1 (fun k1 s3 x2 =>
 (if (16 : Int32) ≤ x2 then
 some ((0 : Int32), s3)
 else
 bnd (f_X10_at__20 s3 x2) (fun r4 s5 =>
 gd (x2) 16 (nm (ps s5 46 (x2) (r4)) (fun s6 =>
 nm (x2 + (1 : Int32)) (fun x7 =>
 k1 s6 x7)))))) 100000 σ (0 : Int32)
def f_X10_copy__21_47 (σ : St) : Ot :=
 lq1 (fun k1 s3 x2 =>
 (if (5 : Int32) ≤ x2 then
 some ((0 : Int32), s3)
 else
 bnd (f_X10_at__21 s3 x2) (fun r4 s5 =>
 gd (x2) 5 (nm (ps s5 47 (x2) (r4)) (fun s6 =>
 nm (x2 + (1 : Int32)) (fun x7 =>
 k1 s6 x7)))))) 100000 σ (0 : Int32)
def f_X9_copyOf__45_19 (σ : St) : Ot :=
 bnd (f_X10_copy__20_46 σ) (fun r1 s2 =>
 bnd (f_X10_copy__21_47 s2) (fun r3 s4 =>
 nm (pf s4 45 2 ((s4 19 2))) (fun s5 =>
 some ((0 : Int32), s5))))
def f_X5_push__22_19 (σ : St) : Ot :=
 bnd (f_X5_placeOf__22 σ ((σ 22 2))) (fun r1 s2 =>
 (if r1 = (24 : Int32) then
 bnd (f_X9_copyOf__24_19 s2) (fun r3 s4 =>
 bnd (f_X5_isFull__22 s4) (fun r5 s6 =>
 (if r5 = (0 : Int32) then
 nm (pf s6 22 2 (((s6 22 2) + (1 : Int32)))) (fun s7 =>
 some ((0 : Int32), s7))
 else
 nm (pf s6 22 1 (((s6 22 1) + (1 : Int32)))) (fun s8 =>
 some ((0 : Int32), s8)))))
 else
 (if r1 = (27 : Int32) then
 bnd (f_X9_copyOf__27_19 s2) (fun r9 s10 =>
 bnd (f_X5_isFull__22 s10) (fun r11 s12 =>
 (if r11 = (0 : Int32) then
 nm (pf s12 22 2 (((s12 22 2) + (1 : Int32)))) (fun s13 =>
 some ((0 : Int32), s13))
 else
 nm (pf s12 22 1 (((s12 22 1) + (1 : Int32)))) (fun s14 =>
 some ((0 : Int32), s14)))))
 else
 (if r1 = (30 : Int32) then
 bnd (f_X9_copyOf__30_19 s2) (fun r15 s16 =>
 bnd (f_X5_isFull__22 s16) (fun r17 s18 =>
 (if r17 = (0 : Int32) then
 nm (pf s18 22 2 (((s18 22 2) + (1 : Int32)))) (fun s19 =>
 some ((0 : Int32), s19))
 else
 nm (pf s18 22 1 (((s18 22 1) + (1 : Int32)))) (fun s20 =>
 some ((0 : Int32), s20)))))
 else
 (if r1 = (33 : Int32) then
 bnd (f_X9_copyOf__33_19 s2) (fun r21 s22 =>
 bnd (f_X5_isFull__22 s22) (fun r23 s24 =>
 (if r23 = (0 : Int32) then
 nm (pf s24 22 2 (((s24 22 2) + (1 : Int32)))) (fun s25 =>
 some ((0 : Int32), s25))
 else
 nm (pf s24 22 1 (((s24 22 1) + (1 : Int32)))) (fun s26 =>
 some ((0 : Int32), s26)))))
 else
 (if r1 = (36 : Int32) then
 bnd (f_X9_copyOf__36_19 s2) (fun r27 s28 =>
 bnd (f_X5_isFull__22 s28) (fun r29 s30 =>
 (if r29 = (0 : Int32) then
 nm (pf s30 22 2 (((s30 22 2) + (1 : Int32)))) (fun s31 =>
 some ((0 : Int32), s31))
 else
 nm (pf s30 22 1 (((s30 22 1) + (1 : Int32)))) (fun s32 =>
 some ((0 : Int32), s32)))))
 else
 (if r1 = (39 : Int32) then
 bnd (f_X9_copyOf__39_19 s2) (fun r33 s34 =>
 bnd (f_X5_isFull__22 s34) (fun r35 s36 =>
 (if r35 = (0 : Int32) then
 nm (pf s36 22 2 (((s36 22 2) + (1 : Int32)))) (fun s37 =>
 some ((0 : Int32), s37))
 else
 nm (pf s36 22 1 (((s36 22 1) + (1 : Int32)))) (fun s38 =>
 some ((0 : Int32), s38)))))
 else
 (if r1 = (42 : Int32) then
 bnd (f_X9_copyOf__42_19 s2) (fun r39 s40 =>
 bnd (f_X5_isFull__22 s40) (fun r41 s42 =>
 (if r41 = (0 : Int32) then
 nm (pf s42 22 2 (((s42 22 2) + (1 : Int32)))) (fun s43 =>
 some ((0 : Int32), s43))
 else
 nm (pf s42 22 1 (((s42 22 1) + (1 : Int32)))) (fun s44 =>
 some ((0 : Int32), s44)))))
 else
 (if r1 = (45 : Int32) then
 bnd (f_X9_copyOf__45_19 s2) (fun r45 s46 =>
 bnd (f_X5_isFull__22 s46) (fun r47 s48 =>
 (if r47 = (0 : Int32) then
 nm (pf s48 22 2 (((s48 22 2) + (1 : Int32)))) (fun s49 =>
 some ((0 : Int32), s49))
 else
 nm (pf s48 22 1 (((s48 22 1) + (1 : Int32)))) (fun s50 =>
 some ((0 : Int32), s50)))))
 else
 none)))))))))
def f_X4_newsTold__12 (σ : St) : Ot :=
 some ((σ 12 10), σ)
def f_X9_goOn__19 (σ : St) (x1 : Int32) : Ot :=
 nm (pf σ 19 2 (((σ 19 2) + x1))) (fun s2 =>
 some ((0 : Int32), s2))
def f_X4_columns__12 (σ : St) : Ot :=
 some ((σ 12 7), σ)
def f_X4_firstColumn__12 (σ : St) : Ot :=
 some ((σ 12 8), σ)
def f_X4_lastColumn__12 (σ : St) : Ot :=
 some ((σ 12 9), σ)
def f_X10_put__58 (σ : St) (x1 x2 : Int32) : Ot :=
 (if x1 < (0 : Int32) then
 some ((0 : Int32), σ)
 else
 (if (16 : Int32) ≤ x1 then
 some ((0 : Int32), σ)
 else
 gd (x1) 16 (nm (ps σ 58 (x1) (x2)) (fun s3 =>
 some ((0 : Int32), s3)))))
def f_X10_at__58 (σ : St) (x1 : Int32) : Ot :=
 jq0 (fun s3 =>
 some ((0 : Int32), s3)) (fun k2 =>
 (if x1 < (0 : Int32) then
 k2 σ
 else
 (if (16 : Int32) ≤ x1 then
 k2 σ
 else
 gd (x1) 16 (some ((σ 58 (Int32.toNatClampNeg x1)), σ)))))
def f_X1_letsInFromGossips__56 (σ : St) (x1 x2 : Int32) : Ot :=
 jq0 (fun s4 =>
 some ((0 : Int32), s4)) (fun k3 =>
 (if x2 ≤ (0 : Int32) then
 k3 σ
 else
 bnd (f_X10_at__58 σ x1) (fun r5 s6 =>
 (if x2 < (r5 - (1 : Int32)) then
 k3 s6
 else
 some ((1 : Int32), s6)))))
def f_X10_put__57 (σ : St) (x1 x2 : Int32) : Ot :=
 (if x1 < (0 : Int32) then
 some ((0 : Int32), σ)
 else
 (if (16 : Int32) ≤ x1 then
 some ((0 : Int32), σ)
 else
 gd (x1) 16 (nm (ps σ 57 (x1) (x2)) (fun s3 =>
 some ((0 : Int32), s3)))))
def f_X1_letsInFromTalkers__56 (σ : St) (x1 x2 : Int32) : Ot :=
 jq0 (fun s4 =>
 some ((0 : Int32), s4)) (fun k3 =>
 (if x2 ≤ (0 : Int32) then
 k3 σ
 else
 bnd (f_X10_at__58 σ x1) (fun r5 s6 =>
 (if x2 < r5 then
 k3 s6
 else
 some ((1 : Int32), s6)))))
def f_X1_reopen__56 (σ : St) (x1 x2 : Int32) : Ot :=
 jq1 (fun s5 x4 =>
 nm (pf s5 56 8 x4) (fun s6 =>
 bnd (f_X1_letsInFromGossips__56 s6 x1 x2) (fun r7 s8 =>
 (if r7 = (0 : Int32) then
 bnd (f_X10_bit s8 x1) (fun r9 s10 =>
 nm (pf s10 56 7 (((s8 56 7) &&& (r9 ^^^ (-1 : Int32))))) (fun s11 =>
 some ((0 : Int32), s11)))
 else
 bnd (f_X10_bit s8 x1) (fun r12 s13 =>
 nm (pf s13 56 7 (((s8 56 7) ||| r12))) (fun s14 =>
 some ((0 : Int32), s14))))))) (fun k3 =>
 bnd (f_X10_put__57 σ x1 x2) (fun r15 s16 =>
 bnd (f_X1_letsInFromTalkers__56 s16 x1 x2) (fun r17 s18 =>
 (if r17 = (0 : Int32) then
 bnd (f_X10_bit s18 x1) (fun r19 s20 =>
 k3 s20 (((s18 56 8) &&& (r19 ^^^ (-1 : Int32)))))
 else
 bnd (f_X10_bit s18 x1) (fun r21 s22 =>
 k3 s22 (((s18 56 8) ||| r21)))))))
def f_X1_pick__56 (σ : St) (x1 : Int32) : Ot :=
 jq1 (fun s4 x3 =>
 bnd (f_X9_whoKnows__19 s4 x1) (fun r5 s6 =>
 nm (pf s6 56 4 r5) (fun s7 =>
 nm (pf s7 56 5 (0 : Int32)) (fun s8 =>
 nm (pf s8 56 6 (0 : Int32)) (fun s9 =>
 nm (pf s9 56 7 (0 : Int32)) (fun s10 =>
 nm (pf s10 56 8 (0 : Int32)) (fun s11 =>
 bnd (f_X4_columns__12 s11) (fun r12 s13 =>
 nm (pf s13 56 9 r12) (fun s14 =>
 bnd (f_X4_firstColumn__12 s14) (fun r15 s16 =>
 nm (pf s16 56 10 r15) (fun s17 =>
 bnd (f_X4_lastColumn__12 s17) (fun r18 s19 =>
 nm (pf s19 56 11 r18) (fun s20 =>
 lq1 (fun k21 s23 x22 =>
 bnd (f_X4_houses__12 s23) (fun r24 s25 =>
 (if r24 ≤ x22 then
 some ((0 : Int32), s25)
 else
 jq2 (fun s29 x27 x28 =>
 jq0 (fun s31 =>
 jq2 (fun s35 x33 x34 =>
 bnd (f_X10_put__58 s35 x34 x33) (fun r36 s37 =>
 bnd (f_X9_sashOf__19 s37 x22) (fun r38 s39 =>
 bnd (f_X1_reopen__56 s39 x22 r38) (fun r40 s41 =>
 nm (x22 + (1 : Int32)) (fun x42 =>
 k21 s41 x42))))) (fun k32 =>
 (if x27 = (2 : Int32) then
 bnd (f_X4_weightOf__12 s31 x1) (fun r45 s46 =>
 k32 s46 ((r45 + (1 : Int32))) x22)
 else
 bnd (f_X4_weightOf__12 s31 x1) (fun r43 s44 =>
 k32 s44 r43 x22)))) (fun k30 =>
 (if x27 = (1 : Int32) then
 bnd (f_X10_bit s29 x22) (fun r50 s51 =>
 nm (pf s51 56 5 (((s29 56 5) ||| r50))) (fun s52 =>
 k30 s52))
 else
 (if x28 = (0 : Int32) then
 bnd (f_X10_bit s29 x22) (fun r47 s48 =>
 nm (pf s48 56 6 (((s29 56 6) ||| r47))) (fun s49 =>
 k30 s49))
 else
 k30 s29)))) (fun k26 =>
 jq1 (fun s55 x54 =>
 k26 s55 x54 (1 : Int32)) (fun k53 =>
 bnd (f_X4_kindOf__12 s25 x22) (fun r56 s57 =>
 (if r56 = (3 : Int32) then
 k53 s57 r56
 else
 jq0 (fun s59 =>
 k26 s59 r56 (0 : Int32)) (fun k58 =>
 (if r56 = (4 : Int32) then
 (if x3 = (0 : Int32) then
 k58 s57
 else
 k53 s57 r56)
 else
 k58 s57))))))))) 100000 s20 (0 : Int32)))))))))))))) (fun k2 =>
 bnd (f_X4_newsKindOf__12 σ x1) (fun r60 s61 =>
 (if r60 = (2 : Int32) then
 k2 s61 (1 : Int32)
 else
 k2 s61 (0 : Int32))))
def f_X1_whoKnows__56 (σ : St) : Ot :=
 some ((σ 56 4), σ)
def f_X1_onward__56 (σ : St) (x1 x2 : Int32) : Ot :=
 jq3 (fun s7 x4 x5 x6 =>
 jq1 (fun s10 x9 =>
 jq1 (fun s13 x12 =>
 jq0 (fun s15 =>
 nm ((x12 ||| ((((x4 &&& ((s15 56 10) ^^^ (-1 : Int32))).toUInt32 >>> ((1 : Int32).toUInt32 &&& Int32.toUInt32 31)).toInt32) &&& (s15 56 7)))) (fun x16 =>
 nm ((x16 ||| ((((x5 &&& ((s15 56 10) ^^^ (-1 : Int32))).toUInt32 >>> ((1 : Int32).toUInt32 &&& Int32.toUInt32 31)).toInt32) &&& (s15 56 8)))) (fun x17 =>
 some (x17, s15)))) (fun k14 =>
 (if x2 = (4 : Int32) then
 k14 s13
 else
 (if x2 = (0 : Int32) then
 k14 s13
 else
 some (x12, s13))))) (fun k11 =>
 jq0 (fun s19 =>
 nm ((x9 ||| ((x4 <<< ((s19 56 9) &&& 31)) &&& (s19 56 7)))) (fun x20 =>
 nm ((x20 ||| ((x5 <<< ((s19 56 9) &&& 31)) &&& (s19 56 8)))) (fun x21 =>
 k11 s19 x21))) (fun k18 =>
 (if x2 = (3 : Int32) then
 k18 s10
 else
 (if x2 = (0 : Int32) then
 k18 s10
 else
 k11 s10 x9))))) (fun k8 =>
 jq0 (fun s23 =>
 nm ((x6 ||| (((x4 &&& ((s23 56 11) ^^^ (-1 : Int32))) <<< ((1 : Int32) &&& 31)) &&& (s23 56 7)))) (fun x24 =>
 nm ((x24 ||| (((x5 &&& ((s23 56 11) ^^^ (-1 : Int32))) <<< ((1 : Int32) &&& 31)) &&& (s23 56 8)))) (fun x25 =>
 k8 s23 x25))) (fun k22 =>
 (if x2 = (2 : Int32) then
 k22 s7
 else
 (if x2 = (0 : Int32) then
 k22 s7
 else
 k8 s7 x6))))) (fun k3 =>
 jq3 (fun s30 x27 x28 x29 =>
 nm ((x29 ||| (((x27.toUInt32 >>> ((s30 56 9).toUInt32 &&& Int32.toUInt32 31)).toInt32) &&& (s30 56 7)))) (fun x31 =>
 nm ((x31 ||| (((x28.toUInt32 >>> ((s30 56 9).toUInt32 &&& Int32.toUInt32 31)).toInt32) &&& (s30 56 8)))) (fun x32 =>
 k3 s30 x27 x28 x32))) (fun k26 =>
 nm ((x1 &&& (σ 56 5))) (fun x33 =>
 nm ((x1 &&& (σ 56 6))) (fun x34 =>
 (if x2 = (1 : Int32) then
 k26 σ x33 x34 x1
 else
 (if x2 = (0 : Int32) then
 k26 σ x33 x34 x1
 else
 k3 σ x33 x34 x1))))))
def f_X1_along__56 (σ : St) (x1 x2 x3 : Int32) : Ot :=
 bnd (f_X4_windsInTurn__12 σ) (fun r4 s5 =>
 lq3 (fun k6 s10 x7 x8 x9 =>
 (if x3 ≤ x9 then
 some (x7, s10)
 else
 (if r4 ≤ x8 then
 some (x7, s10)
 else
 jq2 (fun s14 x12 x13 =>
 nm (x9 + (1 : Int32)) (fun x15 =>
 k6 s14 x12 x13 x15)) (fun k11 =>
 bnd (f_X9_stepsGone__19 s10) (fun r16 s17 =>
 bnd (f_X4_windOf__12 s17 ((r16 + x9))) (fun r18 s19 =>
 bnd (f_X1_onward__56 s19 x7 r18) (fun r20 s21 =>
 (if r20 = x7 then
 k11 s21 r20 ((x8 + (1 : Int32)))
 else
 k11 s21 r20 (0 : Int32))))))))) 100000 s5 x1 (0 : Int32) x2)
def f_X9_setWhoKnows__19 (σ : St) (x1 x2 : Int32) : Ot :=
 bnd (f_X10_put__21 σ x1 x2) (fun r3 s4 =>
 some ((0 : Int32), s4))
def f_X10_step__0 (σ : St) (x1 : Int32) : Ot :=
 bnd (f_X10_within σ x1 (1 : Int32) (24 : Int32)) (fun r2 s3 =>
 (if r2 = (0 : Int32) then
 some ((-1 : Int32), s3)
 else
 bnd (f_X5_push__22_19 s3) (fun r4 s5 =>
 lq1 (fun k6 s8 x7 =>
 bnd (f_X4_newsTold__12 s8) (fun r9 s10 =>
 (if r9 ≤ x7 then
 bnd (f_X9_goOn__19 s10 x1) (fun r11 s12 =>
 bnd (f_X9_stepsGone__19 s12) (fun r13 s14 =>
 some (r13, s14)))
 else
 bnd (f_X1_pick__56 s10 x7) (fun r15 s16 =>
 bnd (f_X1_whoKnows__56 s16) (fun r17 s18 =>
 bnd (f_X1_along__56 s18 r17 (0 : Int32) x1) (fun r19 s20 =>
 bnd (f_X9_setWhoKnows__19 s20 x7 r19) (fun r21 s22 =>
 nm (x7 + (1 : Int32)) (fun x23 =>
 k6 s22 x23)))))))) 100000 s5 (0 : Int32))))
def f_X9_setSash__19 (σ : St) (x1 x2 : Int32) : Ot :=
 bnd (f_X10_put__20 σ x1 x2) (fun r3 s4 =>
 some ((0 : Int32), s4))
def f_X10_open__0 (σ : St) (x1 x2 : Int32) : Ot :=
 bnd (f_X4_hasHouse__12 σ x1) (fun r3 s4 =>
 (if r3 = (0 : Int32) then
 some ((-1 : Int32), s4)
 else
 bnd (f_X10_isWidth s4 x2) (fun r5 s6 =>
 (if r5 = (0 : Int32) then
 some ((-1 : Int32), s6)
 else
 bnd (f_X9_sashOf__19 s6 x1) (fun r7 s8 =>
 bnd (f_X5_push__22_19 s8) (fun r9 s10 =>
 bnd (f_X9_setSash__19 s10 x1 x2) (fun r11 s12 =>
 some (r7, s12))))))))
def f_X10_tell__0 (σ : St) (x1 x2 : Int32) : Ot :=
 bnd (f_X4_hasHouse__12 σ x1) (fun r3 s4 =>
 (if r3 = (0 : Int32) then
 some ((-1 : Int32), s4)
 else
 bnd (f_X4_hasNews__12 s4 x2) (fun r5 s6 =>
 (if r5 = (0 : Int32) then
 some ((-1 : Int32), s6)
 else
 bnd (f_X9_whoKnows__19 s6 x2) (fun r7 s8 =>
 bnd (f_X10_holds s8 r7 x1) (fun r9 s10 =>
 (if r9 = (0 : Int32) then
 bnd (f_X5_push__22_19 s10) (fun r11 s12 =>
 bnd (f_X10_bit s12 x1) (fun r13 s14 =>
 bnd (f_X9_setWhoKnows__19 s14 x2 ((r7 ||| r13))) (fun r15 s16 =>
 bnd (f_X10_bit s16 x1) (fun r17 s18 =>
 bnd (f_J6_bitCount_0f7a4 s18 ((r7 ||| r17))) (fun r19 s20 =>
 some (r19, s20))))))
 else
 some ((-2 : Int32), s10))))))))
def f_X10_at__25 (σ : St) (x1 : Int32) : Ot :=
 jq0 (fun s3 =>
 some ((0 : Int32), s3)) (fun k2 =>
 (if x1 < (0 : Int32) then
 k2 σ
 else
 (if (16 : Int32) ≤ x1 then
 k2 σ
 else
 gd (x1) 16 (some ((σ 25 (Int32.toNatClampNeg x1)), σ)))))
def f_X10_copy__25_20 (σ : St) : Ot :=
 lq1 (fun k1 s3 x2 =>
 (if (16 : Int32) ≤ x2 then
 some ((0 : Int32), s3)
 else
 bnd (f_X10_at__25 s3 x2) (fun r4 s5 =>
 gd (x2) 16 (nm (ps s5 20 (x2) (r4)) (fun s6 =>
 nm (x2 + (1 : Int32)) (fun x7 =>
 k1 s6 x7)))))) 100000 σ (0 : Int32)
def f_X10_at__26 (σ : St) (x1 : Int32) : Ot :=
 jq0 (fun s3 =>
 some ((0 : Int32), s3)) (fun k2 =>
 (if x1 < (0 : Int32) then
 k2 σ
 else
 (if (5 : Int32) ≤ x1 then
 k2 σ
 else
 gd (x1) 5 (some ((σ 26 (Int32.toNatClampNeg x1)), σ)))))
def f_X10_copy__26_21 (σ : St) : Ot :=
 lq1 (fun k1 s3 x2 =>
 (if (5 : Int32) ≤ x2 then
 some ((0 : Int32), s3)
 else
 bnd (f_X10_at__26 s3 x2) (fun r4 s5 =>
 gd (x2) 5 (nm (ps s5 21 (x2) (r4)) (fun s6 =>
 nm (x2 + (1 : Int32)) (fun x7 =>
 k1 s6 x7)))))) 100000 σ (0 : Int32)
def f_X9_copyOf__19_24 (σ : St) : Ot :=
 bnd (f_X10_copy__25_20 σ) (fun r1 s2 =>
 bnd (f_X10_copy__26_21 s2) (fun r3 s4 =>
 nm (pf s4 19 2 ((s4 24 2))) (fun s5 =>
 some ((0 : Int32), s5))))
def f_X10_at__28 (σ : St) (x1 : Int32) : Ot :=
 jq0 (fun s3 =>
 some ((0 : Int32), s3)) (fun k2 =>
 (if x1 < (0 : Int32) then
 k2 σ
 else
 (if (16 : Int32) ≤ x1 then
 k2 σ
 else
 gd (x1) 16 (some ((σ 28 (Int32.toNatClampNeg x1)), σ)))))
def f_X10_copy__28_20 (σ : St) : Ot :=
 lq1 (fun k1 s3 x2 =>
 (if (16 : Int32) ≤ x2 then
 some ((0 : Int32), s3)
 else
 bnd (f_X10_at__28 s3 x2) (fun r4 s5 =>
 gd (x2) 16 (nm (ps s5 20 (x2) (r4)) (fun s6 =>
 nm (x2 + (1 : Int32)) (fun x7 =>
 k1 s6 x7)))))) 100000 σ (0 : Int32)
def f_X10_at__29 (σ : St) (x1 : Int32) : Ot :=
 jq0 (fun s3 =>
 some ((0 : Int32), s3)) (fun k2 =>
 (if x1 < (0 : Int32) then
 k2 σ
 else
 (if (5 : Int32) ≤ x1 then
 k2 σ
 else
 gd (x1) 5 (some ((σ 29 (Int32.toNatClampNeg x1)), σ)))))
def f_X10_copy__29_21 (σ : St) : Ot :=
 lq1 (fun k1 s3 x2 =>
 (if (5 : Int32) ≤ x2 then
 some ((0 : Int32), s3)
 else
 bnd (f_X10_at__29 s3 x2) (fun r4 s5 =>
 gd (x2) 5 (nm (ps s5 21 (x2) (r4)) (fun s6 =>
 nm (x2 + (1 : Int32)) (fun x7 =>
 k1 s6 x7)))))) 100000 σ (0 : Int32)
def f_X9_copyOf__19_27 (σ : St) : Ot :=
 bnd (f_X10_copy__28_20 σ) (fun r1 s2 =>
 bnd (f_X10_copy__29_21 s2) (fun r3 s4 =>
 nm (pf s4 19 2 ((s4 27 2))) (fun s5 =>
 some ((0 : Int32), s5))))
def f_X10_at__31 (σ : St) (x1 : Int32) : Ot :=
 jq0 (fun s3 =>
 some ((0 : Int32), s3)) (fun k2 =>
 (if x1 < (0 : Int32) then
 k2 σ
 else
 (if (16 : Int32) ≤ x1 then
 k2 σ
 else
 gd (x1) 16 (some ((σ 31 (Int32.toNatClampNeg x1)), σ)))))
def f_X10_copy__31_20 (σ : St) : Ot :=
 lq1 (fun k1 s3 x2 =>
 (if (16 : Int32) ≤ x2 then
 some ((0 : Int32), s3)
 else
 bnd (f_X10_at__31 s3 x2) (fun r4 s5 =>
 gd (x2) 16 (nm (ps s5 20 (x2) (r4)) (fun s6 =>
 nm (x2 + (1 : Int32)) (fun x7 =>
 k1 s6 x7)))))) 100000 σ (0 : Int32)
def f_X10_at__32 (σ : St) (x1 : Int32) : Ot :=
 jq0 (fun s3 =>
 some ((0 : Int32), s3)) (fun k2 =>
 (if x1 < (0 : Int32) then
 k2 σ
 else
 (if (5 : Int32) ≤ x1 then
 k2 σ
 else
 gd (x1) 5 (some ((σ 32 (Int32.toNatClampNeg x1)), σ)))))
def f_X10_copy__32_21 (σ : St) : Ot :=
 lq1 (fun k1 s3 x2 =>
 (if (5 : Int32) ≤ x2 then
 some ((0 : Int32), s3)
 else
 bnd (f_X10_at__32 s3 x2) (fun r4 s5 =>
 gd (x2) 5 (nm (ps s5 21 (x2) (r4)) (fun s6 =>
 nm (x2 + (1 : Int32)) (fun x7 =>
 k1 s6 x7)))))) 100000 σ (0 : Int32)
def f_X9_copyOf__19_30 (σ : St) : Ot :=
 bnd (f_X10_copy__31_20 σ) (fun r1 s2 =>
 bnd (f_X10_copy__32_21 s2) (fun r3 s4 =>
 nm (pf s4 19 2 ((s4 30 2))) (fun s5 =>
 some ((0 : Int32), s5))))
def f_X10_at__34 (σ : St) (x1 : Int32) : Ot :=
 jq0 (fun s3 =>
 some ((0 : Int32), s3)) (fun k2 =>
 (if x1 < (0 : Int32) then
 k2 σ
 else
 (if (16 : Int32) ≤ x1 then
 k2 σ
 else
 gd (x1) 16 (some ((σ 34 (Int32.toNatClampNeg x1)), σ)))))
def f_X10_copy__34_20 (σ : St) : Ot :=
 lq1 (fun k1 s3 x2 =>
 (if (16 : Int32) ≤ x2 then
 some ((0 : Int32), s3)
 else
 bnd (f_X10_at__34 s3 x2) (fun r4 s5 =>
 gd (x2) 16 (nm (ps s5 20 (x2) (r4)) (fun s6 =>
 nm (x2 + (1 : Int32)) (fun x7 =>
 k1 s6 x7)))))) 100000 σ (0 : Int32)
def f_X10_at__35 (σ : St) (x1 : Int32) : Ot :=
 jq0 (fun s3 =>
 some ((0 : Int32), s3)) (fun k2 =>
 (if x1 < (0 : Int32) then
 k2 σ
 else
 (if (5 : Int32) ≤ x1 then
 k2 σ
 else
 gd (x1) 5 (some ((σ 35 (Int32.toNatClampNeg x1)), σ)))))
def f_X10_copy__35_21 (σ : St) : Ot :=
 lq1 (fun k1 s3 x2 =>
 (if (5 : Int32) ≤ x2 then
 some ((0 : Int32), s3)
 else
 bnd (f_X10_at__35 s3 x2) (fun r4 s5 =>
 gd (x2) 5 (nm (ps s5 21 (x2) (r4)) (fun s6 =>
 nm (x2 + (1 : Int32)) (fun x7 =>
 k1 s6 x7)))))) 100000 σ (0 : Int32)
def f_X9_copyOf__19_33 (σ : St) : Ot :=
 bnd (f_X10_copy__34_20 σ) (fun r1 s2 =>
 bnd (f_X10_copy__35_21 s2) (fun r3 s4 =>
 nm (pf s4 19 2 ((s4 33 2))) (fun s5 =>
 some ((0 : Int32), s5))))
def f_X10_at__37 (σ : St) (x1 : Int32) : Ot :=
 jq0 (fun s3 =>
 some ((0 : Int32), s3)) (fun k2 =>
 (if x1 < (0 : Int32) then
 k2 σ
 else
 (if (16 : Int32) ≤ x1 then
 k2 σ
 else
 gd (x1) 16 (some ((σ 37 (Int32.toNatClampNeg x1)), σ)))))
def f_X10_copy__37_20 (σ : St) : Ot :=
 lq1 (fun k1 s3 x2 =>
 (if (16 : Int32) ≤ x2 then
 some ((0 : Int32), s3)
 else
 bnd (f_X10_at__37 s3 x2) (fun r4 s5 =>
 gd (x2) 16 (nm (ps s5 20 (x2) (r4)) (fun s6 =>
 nm (x2 + (1 : Int32)) (fun x7 =>
 k1 s6 x7)))))) 100000 σ (0 : Int32)
def f_X10_at__38 (σ : St) (x1 : Int32) : Ot :=
 jq0 (fun s3 =>
 some ((0 : Int32), s3)) (fun k2 =>
 (if x1 < (0 : Int32) then
 k2 σ
 else
 (if (5 : Int32) ≤ x1 then
 k2 σ
 else
 gd (x1) 5 (some ((σ 38 (Int32.toNatClampNeg x1)), σ)))))
def f_X10_copy__38_21 (σ : St) : Ot :=
 lq1 (fun k1 s3 x2 =>
 (if (5 : Int32) ≤ x2 then
 some ((0 : Int32), s3)
 else
 bnd (f_X10_at__38 s3 x2) (fun r4 s5 =>
 gd (x2) 5 (nm (ps s5 21 (x2) (r4)) (fun s6 =>
 nm (x2 + (1 : Int32)) (fun x7 =>
 k1 s6 x7)))))) 100000 σ (0 : Int32)
def f_X9_copyOf__19_36 (σ : St) : Ot :=
 bnd (f_X10_copy__37_20 σ) (fun r1 s2 =>
 bnd (f_X10_copy__38_21 s2) (fun r3 s4 =>
 nm (pf s4 19 2 ((s4 36 2))) (fun s5 =>
 some ((0 : Int32), s5))))
def f_X10_at__40 (σ : St) (x1 : Int32) : Ot :=
 jq0 (fun s3 =>
 some ((0 : Int32), s3)) (fun k2 =>
 (if x1 < (0 : Int32) then
 k2 σ
 else
 (if (16 : Int32) ≤ x1 then
 k2 σ
 else
 gd (x1) 16 (some ((σ 40 (Int32.toNatClampNeg x1)), σ)))))
def f_X10_copy__40_20 (σ : St) : Ot :=
 lq1 (fun k1 s3 x2 =>
 (if (16 : Int32) ≤ x2 then
 some ((0 : Int32), s3)
 else
 bnd (f_X10_at__40 s3 x2) (fun r4 s5 =>
 gd (x2) 16 (nm (ps s5 20 (x2) (r4)) (fun s6 =>
 nm (x2 + (1 : Int32)) (fun x7 =>
 k1 s6 x7)))))) 100000 σ (0 : Int32)
def f_X10_at__41 (σ : St) (x1 : Int32) : Ot :=
 jq0 (fun s3 =>
 some ((0 : Int32), s3)) (fun k2 =>
 (if x1 < (0 : Int32) then
 k2 σ
 else
 (if (5 : Int32) ≤ x1 then
 k2 σ
 else
 gd (x1) 5 (some ((σ 41 (Int32.toNatClampNeg x1)), σ)))))
def f_X10_copy__41_21 (σ : St) : Ot :=
 lq1 (fun k1 s3 x2 =>
 (if (5 : Int32) ≤ x2 then
 some ((0 : Int32), s3)
 else
 bnd (f_X10_at__41 s3 x2) (fun r4 s5 =>
 gd (x2) 5 (nm (ps s5 21 (x2) (r4)) (fun s6 =>
 nm (x2 + (1 : Int32)) (fun x7 =>
 k1 s6 x7)))))) 100000 σ (0 : Int32)
def f_X9_copyOf__19_39 (σ : St) : Ot :=
 bnd (f_X10_copy__40_20 σ) (fun r1 s2 =>
 bnd (f_X10_copy__41_21 s2) (fun r3 s4 =>
 nm (pf s4 19 2 ((s4 39 2))) (fun s5 =>
 some ((0 : Int32), s5))))
def f_X10_at__43 (σ : St) (x1 : Int32) : Ot :=
 jq0 (fun s3 =>
 some ((0 : Int32), s3)) (fun k2 =>
 (if x1 < (0 : Int32) then
 k2 σ
 else
 (if (16 : Int32) ≤ x1 then
 k2 σ
 else
 gd (x1) 16 (some ((σ 43 (Int32.toNatClampNeg x1)), σ)))))
def f_X10_copy__43_20 (σ : St) : Ot :=
 lq1 (fun k1 s3 x2 =>
 (if (16 : Int32) ≤ x2 then
 some ((0 : Int32), s3)
 else
 bnd (f_X10_at__43 s3 x2) (fun r4 s5 =>
 gd (x2) 16 (nm (ps s5 20 (x2) (r4)) (fun s6 =>
 nm (x2 + (1 : Int32)) (fun x7 =>
 k1 s6 x7)))))) 100000 σ (0 : Int32)
def f_X10_at__44 (σ : St) (x1 : Int32) : Ot :=
 jq0 (fun s3 =>
 some ((0 : Int32), s3)) (fun k2 =>
 (if x1 < (0 : Int32) then
 k2 σ
 else
 (if (5 : Int32) ≤ x1 then
 k2 σ
 else
 gd (x1) 5 (some ((σ 44 (Int32.toNatClampNeg x1)), σ)))))
def f_X10_copy__44_21 (σ : St) : Ot :=
 lq1 (fun k1 s3 x2 =>
 (if (5 : Int32) ≤ x2 then
 some ((0 : Int32), s3)
 else
 bnd (f_X10_at__44 s3 x2) (fun r4 s5 =>
 gd (x2) 5 (nm (ps s5 21 (x2) (r4)) (fun s6 =>
 nm (x2 + (1 : Int32)) (fun x7 =>
 k1 s6 x7)))))) 100000 σ (0 : Int32)
def f_X9_copyOf__19_42 (σ : St) : Ot :=
 bnd (f_X10_copy__43_20 σ) (fun r1 s2 =>
 bnd (f_X10_copy__44_21 s2) (fun r3 s4 =>
 nm (pf s4 19 2 ((s4 42 2))) (fun s5 =>
 some ((0 : Int32), s5))))
def f_X10_at__46 (σ : St) (x1 : Int32) : Ot :=
 jq0 (fun s3 =>
 some ((0 : Int32), s3)) (fun k2 =>
 (if x1 < (0 : Int32) then
 k2 σ
 else
 (if (16 : Int32) ≤ x1 then
 k2 σ
 else
 gd (x1) 16 (some ((σ 46 (Int32.toNatClampNeg x1)), σ)))))
def f_X10_copy__46_20 (σ : St) : Ot :=
 lq1 (fun k1 s3 x2 =>
 (if (16 : Int32) ≤ x2 then
 some ((0 : Int32), s3)
 else
 bnd (f_X10_at__46 s3 x2) (fun r4 s5 =>
 gd (x2) 16 (nm (ps s5 20 (x2) (r4)) (fun s6 =>
 nm (x2 + (1 : Int32)) (fun x7 =>
 k1 s6 x7)))))) 100000 σ (0 : Int32)
def f_X10_at__47 (σ : St) (x1 : Int32) : Ot :=
 jq0 (fun s3 =>
 some ((0 : Int32), s3)) (fun k2 =>
 (if x1 < (0 : Int32) then
 k2 σ
 else
 (if (5 : Int32) ≤ x1 then
 k2 σ
 else
 gd (x1) 5 (some ((σ 47 (Int32.toNatClampNeg x1)), σ)))))
def f_X10_copy__47_21 (σ : St) : Ot :=
 lq1 (fun k1 s3 x2 =>
 (if (5 : Int32) ≤ x2 then
 some ((0 : Int32), s3)
 else
 bnd (f_X10_at__47 s3 x2) (fun r4 s5 =>
 gd (x2) 5 (nm (ps s5 21 (x2) (r4)) (fun s6 =>
 nm (x2 + (1 : Int32)) (fun x7 =>
 k1 s6 x7)))))) 100000 σ (0 : Int32)
def f_X9_copyOf__19_45 (σ : St) : Ot :=
 bnd (f_X10_copy__46_20 σ) (fun r1 s2 =>
 bnd (f_X10_copy__47_21 s2) (fun r3 s4 =>
 nm (pf s4 19 2 ((s4 45 2))) (fun s5 =>
 some ((0 : Int32), s5))))
def f_X5_popInto__22_19 (σ : St) : Ot :=
 (if (σ 22 2) = (0 : Int32) then
 some ((0 : Int32), σ)
 else
 bnd (f_X5_placeOf__22 σ (((σ 22 2) - (1 : Int32)))) (fun r1 s2 =>
 (if r1 = (24 : Int32) then
 bnd (f_X9_copyOf__19_24 s2) (fun r3 s4 =>
 nm (pf s4 22 2 (((s4 22 2) - (1 : Int32)))) (fun s5 =>
 some ((1 : Int32), s5)))
 else
 (if r1 = (27 : Int32) then
 bnd (f_X9_copyOf__19_27 s2) (fun r6 s7 =>
 nm (pf s7 22 2 (((s7 22 2) - (1 : Int32)))) (fun s8 =>
 some ((1 : Int32), s8)))
 else
 (if r1 = (30 : Int32) then
 bnd (f_X9_copyOf__19_30 s2) (fun r9 s10 =>
 nm (pf s10 22 2 (((s10 22 2) - (1 : Int32)))) (fun s11 =>
 some ((1 : Int32), s11)))
 else
 (if r1 = (33 : Int32) then
 bnd (f_X9_copyOf__19_33 s2) (fun r12 s13 =>
 nm (pf s13 22 2 (((s13 22 2) - (1 : Int32)))) (fun s14 =>
 some ((1 : Int32), s14)))
 else
 (if r1 = (36 : Int32) then
 bnd (f_X9_copyOf__19_36 s2) (fun r15 s16 =>
 nm (pf s16 22 2 (((s16 22 2) - (1 : Int32)))) (fun s17 =>
 some ((1 : Int32), s17)))
 else
 (if r1 = (39 : Int32) then
 bnd (f_X9_copyOf__19_39 s2) (fun r18 s19 =>
 nm (pf s19 22 2 (((s19 22 2) - (1 : Int32)))) (fun s20 =>
 some ((1 : Int32), s20)))
 else
 (if r1 = (42 : Int32) then
 bnd (f_X9_copyOf__19_42 s2) (fun r21 s22 =>
 nm (pf s22 22 2 (((s22 22 2) - (1 : Int32)))) (fun s23 =>
 some ((1 : Int32), s23)))
 else
 (if r1 = (45 : Int32) then
 bnd (f_X9_copyOf__19_45 s2) (fun r24 s25 =>
 nm (pf s25 22 2 (((s25 22 2) - (1 : Int32)))) (fun s26 =>
 some ((1 : Int32), s26)))
 else
 none))))))))))
def f_X5_size__22 (σ : St) : Ot :=
 some ((σ 22 2), σ)
def f_X10_undo__0 (σ : St) : Ot :=
 bnd (f_X5_popInto__22_19 σ) (fun r1 s2 =>
 (if r1 = (0 : Int32) then
 some ((-2 : Int32), s2)
 else
 bnd (f_X5_size__22 s2) (fun r3 s4 =>
 some (r3, s4))))
def f_X1_hears__56 (σ : St) (x1 x2 : Int32) : Ot :=
 bnd (f_X1_along__56 σ ((σ 56 4)) (0 : Int32) x2) (fun r3 s4 =>
 bnd (f_X10_holds s4 r3 x1) (fun r5 s6 =>
 zg r5 (some (r5, s6))))
def f_X3_knownBehind__59 (σ : St) (x1 x2 : Int32) : Ot :=
 lq2 (fun k3 s6 x4 x5 =>
 bnd (f_X4_newsTold__12 s6) (fun r7 s8 =>
 (if r7 ≤ x5 then
 some (x4, s8)
 else
 jq1 (fun s11 x10 =>
 nm (x5 + (1 : Int32)) (fun x12 =>
 k3 s11 x10 x12)) (fun k9 =>
 bnd (f_X1_pick__56 s8 x5) (fun r13 s14 =>
 bnd (f_X1_hears__56 s14 x2 x1) (fun r15 s16 =>
 (if r15 = (0 : Int32) then
 k9 s16 x4
 else
 bnd (f_X10_bit s16 x5) (fun r17 s18 =>
 nm ((x4 ||| r17)) (fun x19 =>
 k9 s18 x19))))))))) 100000 σ (0 : Int32) (0 : Int32)
def f_X10_behind__0 (σ : St) (x1 x2 : Int32) : Ot :=
 bnd (f_X10_within σ x1 (0 : Int32) (48 : Int32)) (fun r3 s4 =>
 (if r3 = (0 : Int32) then
 some ((-1 : Int32), s4)
 else
 bnd (f_X4_hasHouse__12 s4 x2) (fun r5 s6 =>
 (if r5 = (0 : Int32) then
 some ((-1 : Int32), s6)
 else
 bnd (f_X3_knownBehind__59 s6 x1 x2) (fun r7 s8 =>
 some (r7, s8))))))
def f_X3_firstHeard__59 (σ : St) (x1 x2 : Int32) : Ot :=
 bnd (f_X1_pick__56 σ x2) (fun r3 s4 =>
 bnd (f_X1_whoKnows__56 s4) (fun r5 s6 =>
 lq2 (fun k7 s10 x8 x9 =>
 (if (48 : Int32) < x9 then
 some ((-4 : Int32), s10)
 else
 bnd (f_X10_holds s10 x8 x1) (fun r11 s12 =>
 (if r11 = (0 : Int32) then
 bnd (f_X1_along__56 s12 x8 x9 ((x9 + (1 : Int32)))) (fun r13 s14 =>
 nm (x9 + (1 : Int32)) (fun x15 =>
 k7 s14 r13 x15))
 else
 some (x9, s12))))) 100000 s6 r5 (0 : Int32)))
def f_X10_when__0 (σ : St) (x1 x2 : Int32) : Ot :=
 bnd (f_X4_hasHouse__12 σ x1) (fun r3 s4 =>
 (if r3 = (0 : Int32) then
 some ((-1 : Int32), s4)
 else
 bnd (f_X4_hasNews__12 s4 x2) (fun r5 s6 =>
 (if r5 = (0 : Int32) then
 some ((-1 : Int32), s6)
 else
 bnd (f_X3_firstHeard__59 s6 x1 x2) (fun r7 s8 =>
 some (r7, s8))))))
def f_X3_latestHouse__59 (σ : St) (x1 : Int32) : Ot :=
 lq3 (fun k2 s6 x3 x4 x5 =>
 bnd (f_X4_houses__12 s6) (fun r7 s8 =>
 (if r7 ≤ x5 then
 some (x3, s8)
 else
 jq2 (fun s12 x10 x11 =>
 nm (x5 + (1 : Int32)) (fun x13 =>
 k2 s12 x10 x11 x13)) (fun k9 =>
 bnd (f_X3_firstHeard__59 s8 x5 x1) (fun r14 s15 =>
 (if r14 ≤ (0 : Int32) then
 k9 s15 x3 x4
 else
 (if r14 < x4 then
 k9 s15 x3 x4
 else
 k9 s15 x5 r14))))))) 100000 σ (-4 : Int32) (0 : Int32) (0 : Int32)
def f_X10_last__0 (σ : St) (x1 x2 : Int32) : Ot :=
 bnd (f_X4_hasNews__12 σ x1) (fun r3 s4 =>
 (if r3 = (0 : Int32) then
 some ((-1 : Int32), s4)
 else
 bnd (f_X10_within s4 x2 (0 : Int32) (1 : Int32)) (fun r5 s6 =>
 (if r5 = (0 : Int32) then
 some ((-1 : Int32), s6)
 else
 bnd (f_X3_latestHouse__59 s6 x1) (fun r7 s8 =>
 (if r7 = (-4 : Int32) then
 some ((-4 : Int32), s8)
 else
 (if x2 = (0 : Int32) then
 some (r7, s8)
 else
 bnd (f_X3_firstHeard__59 s8 r7 x1) (fun r9 s10 =>
 some (r9, s10)))))))))
def f_X4_allHouses__12 (σ : St) : Ot :=
 bnd (f_X4_houses__12 σ) (fun r1 s2 =>
 some ((((1 : Int32) <<< (r1 &&& 31)) - (1 : Int32)), s2))
def f_X1_stuff__56 (σ : St) (x1 : Int32) : Ot :=
 lq1 (fun k2 s4 x3 =>
 bnd (f_X4_houses__12 s4) (fun r5 s6 =>
 (if r5 ≤ x3 then
 some ((0 : Int32), s6)
 else
 jq0 (fun s8 =>
 nm (x3 + (1 : Int32)) (fun x9 =>
 k2 s8 x9)) (fun k7 =>
 bnd (f_X10_holds s6 x1 x3) (fun r10 s11 =>
 (if r10 = (0 : Int32) then
 k7 s11
 else
 bnd (f_X1_reopen__56 s11 x3 (0 : Int32)) (fun r12 s13 =>
 k7 s13))))))) 100000 σ (0 : Int32)
def f_X3_fewestStuffed__59 (σ : St) (x1 x2 : Int32) : Ot :=
 bnd (f_X9_whoKnows__19 σ x2) (fun r3 s4 =>
 bnd (f_X10_holds s4 r3 x1) (fun r5 s6 =>
 (if r5 = (0 : Int32) then
 bnd (f_X4_allHouses__12 s6) (fun r7 s8 =>
 lq3 (fun k9 s13 x10 x11 x12 =>
 (if r7 < x12 then
 some (x10, s13)
 else
 jq2 (fun s17 x15 x16 =>
 nm (x12 + (1 : Int32)) (fun x18 =>
 k9 s17 x15 x16 x18)) (fun k14 =>
 bnd (f_J6_bitCount_0f7a4 s13 x12) (fun r19 s20 =>
 (if x11 ≤ r19 then
 k14 s20 x10 x11
 else
 bnd (f_X10_holds s20 x12 x1) (fun r21 s22 =>
 (if r21 = (0 : Int32) then
 bnd (f_X1_pick__56 s22 x2) (fun r23 s24 =>
 bnd (f_X1_stuff__56 s24 x12) (fun r25 s26 =>
 bnd (f_X1_hears__56 s26 x1 (48 : Int32)) (fun r27 s28 =>
 (if r27 = (0 : Int32) then
 bnd (f_J6_bitCount_0f7a4 s28 x12) (fun r29 s30 =>
 k14 s30 x12 r29)
 else
 k14 s28 x10 x11))))
 else
 k14 s22 x10 x11))))))) 100000 s8 (-4 : Int32) (4 : Int32) (0 : Int32))
 else
 some ((-4 : Int32), s6))))
def f_X10_cut__0 (σ : St) (x1 x2 x3 : Int32) : Ot :=
 bnd (f_X4_hasHouse__12 σ x1) (fun r4 s5 =>
 (if r4 = (0 : Int32) then
 some ((-1 : Int32), s5)
 else
 bnd (f_X4_hasNews__12 s5 x2) (fun r6 s7 =>
 (if r6 = (0 : Int32) then
 some ((-1 : Int32), s7)
 else
 bnd (f_X10_within s7 x3 (0 : Int32) (1 : Int32)) (fun r8 s9 =>
 (if r8 = (0 : Int32) then
 some ((-1 : Int32), s9)
 else
 bnd (f_X3_fewestStuffed__59 s9 x1 x2) (fun r10 s11 =>
 (if r10 = (-4 : Int32) then
 some ((-4 : Int32), s11)
 else
 (if x3 = (0 : Int32) then
 bnd (f_J6_bitCount_0f7a4 s11 r10) (fun r12 s13 =>
 some (r12, s13))
 else
 some (r10, s11))))))))))
def f_X4_hasHouses__12 (σ : St) (x1 : Int32) : Ot :=
 bnd (f_X4_allHouses__12 σ) (fun r2 s3 =>
 bnd (f_X10_within s3 x1 (0 : Int32) r2) (fun r4 s5 =>
 zg r4 (some (r4, s5))))
def f_X2_answer__60 (σ : St) (x1 : Int32) : Ot :=
 (if x1 = (1 : Int32) then
 some ((σ 60 7), σ)
 else
 (if x1 = (2 : Int32) then
 some ((σ 60 8), σ)
 else
 some ((σ 60 6), σ)))
def f_X2_found__60 (σ : St) (x1 x2 x3 : Int32) : Ot :=
 nm (pf σ 60 6 x1) (fun s4 =>
 nm (pf s4 60 7 x2) (fun s5 =>
 nm (pf s5 60 8 x3) (fun s6 =>
 some ((0 : Int32), s6))))
def f_X2_pose__60 (σ : St) (x1 x2 x3 x4 : Int32) : Ot :=
 nm (pf σ 60 3 x2) (fun s5 =>
 nm (pf s5 60 4 x3) (fun s6 =>
 nm (pf s6 60 5 x4) (fun s7 =>
 bnd (f_X2_found__60 s7 (-4 : Int32) (-4 : Int32) (-4 : Int32)) (fun r8 s9 =>
 bnd (f_X1_pick__56 s9 x1) (fun r10 s11 =>
 some ((0 : Int32), s11))))))
def f_X2_isSo__60 (σ : St) (x1 : Int32) : Ot :=
 jq0 (fun s3 =>
 some ((0 : Int32), s3)) (fun k2 =>
 (if (x1 &&& (σ 60 4)) = (σ 60 4) then
 (if (x1 &&& (σ 60 5)) = (0 : Int32) then
 some ((1 : Int32), σ)
 else
 k2 σ)
 else
 k2 σ))
def f_X2_isFoundByNone__60 (σ : St) : Ot :=
 bnd (f_X1_whoKnows__56 σ) (fun r1 s2 =>
 bnd (f_X1_along__56 s2 r1 (0 : Int32) ((s2 60 3))) (fun r3 s4 =>
 bnd (f_X2_isSo__60 s4 r3) (fun r5 s6 =>
 (if r5 = (0 : Int32) then
 some ((0 : Int32), s6)
 else
 bnd (f_X2_found__60 s6 (0 : Int32) (-4 : Int32) (-4 : Int32)) (fun r7 s8 =>
 some ((1 : Int32), s8))))))
def f_X1_isAnother__56 (σ : St) (x1 x2 : Int32) : Ot :=
 jq0 (fun s4 =>
 some ((1 : Int32), s4)) (fun k3 =>
 (if x2 < (1 : Int32) then
 k3 σ
 else
 bnd (f_X1_letsInFromTalkers__56 σ x1 x2) (fun r5 s6 =>
 bnd (f_X1_letsInFromTalkers__56 s6 x1 ((x2 - (1 : Int32)))) (fun r7 s8 =>
 (if r5 = r7 then
 bnd (f_X1_letsInFromGossips__56 s8 x1 x2) (fun r9 s10 =>
 bnd (f_X1_letsInFromGossips__56 s10 x1 ((x2 - (1 : Int32)))) (fun r11 s12 =>
 (if r9 = r11 then
 some ((0 : Int32), s12)
 else
 k3 s12)))
 else
 k3 s8)))))
def f_X2_fittingWidth__60 (σ : St) (x1 : Int32) : Ot :=
 lq2 (fun k2 s5 x3 x4 =>
 jq0 (fun s7 =>
 bnd (f_X9_sashOf__19 s7 x1) (fun r8 s9 =>
 bnd (f_X1_reopen__56 s9 x1 r8) (fun r10 s11 =>
 some (x3, s11)))) (fun k6 =>
 (if (6 : Int32) < x4 then
 k6 s5
 else
 (if x3 = (-4 : Int32) then
 jq1 (fun s14 x13 =>
 nm (x4 + (1 : Int32)) (fun x15 =>
 k2 s14 x13 x15)) (fun k12 =>
 bnd (f_X1_isAnother__56 s5 x1 x4) (fun r16 s17 =>
 (if r16 = (0 : Int32) then
 k12 s17 x3
 else
 bnd (f_X1_reopen__56 s17 x1 x4) (fun r18 s19 =>
 bnd (f_X1_whoKnows__56 s19) (fun r20 s21 =>
 bnd (f_X1_along__56 s21 r20 (0 : Int32) ((s21 60 3))) (fun r22 s23 =>
 bnd (f_X2_isSo__60 s23 r22) (fun r24 s25 =>
 (if r24 = (0 : Int32) then
 k12 s25 x3
 else
 k12 s25 x4))))))))
 else
 k6 s5)))) 100000 σ (-4 : Int32) (0 : Int32)
def f_X2_isFoundByOne__60 (σ : St) : Ot :=
 lq1 (fun k1 s3 x2 =>
 bnd (f_X4_houses__12 s3) (fun r4 s5 =>
 (if r4 ≤ x2 then
 some ((0 : Int32), s5)
 else
 bnd (f_X2_fittingWidth__60 s5 x2) (fun r6 s7 =>
 (if r6 = (-4 : Int32) then
 nm (x2 + (1 : Int32)) (fun x8 =>
 k1 s7 x8)
 else
 bnd (f_X2_found__60 s7 (1 : Int32) ((((10 : Int32) * x2) + r6)) (-4 : Int32)) (fun r9 s10 =>
 some ((1 : Int32), s10))))))) 100000 σ (0 : Int32)
def f_X2_isFoundWith__60 (σ : St) (x1 x2 : Int32) : Ot :=
 nm ((x1 + (1 : Int32))) (fun x3 =>
 lq1 (fun k4 s6 x5 =>
 bnd (f_X4_houses__12 s6) (fun r7 s8 =>
 (if r7 ≤ x5 then
 some ((0 : Int32), s8)
 else
 bnd (f_X2_fittingWidth__60 s8 x5) (fun r9 s10 =>
 (if r9 = (-4 : Int32) then
 nm (x5 + (1 : Int32)) (fun x11 =>
 k4 s10 x11)
 else
 bnd (f_X2_found__60 s10 (2 : Int32) ((((10 : Int32) * x1) + x2)) ((((10 : Int32) * x5) + r9))) (fun r12 s13 =>
 some ((1 : Int32), s13))))))) 100000 σ x3)
def f_X2_findByTwo__60 (σ : St) : Ot :=
 lq1 (fun k1 s3 x2 =>
 bnd (f_X4_houses__12 s3) (fun r4 s5 =>
 (if r4 ≤ x2 then
 some ((0 : Int32), s5)
 else
 lq1 (fun k6 s8 x7 =>
 (if (6 : Int32) < x7 then
 bnd (f_X9_sashOf__19 s8 x2) (fun r9 s10 =>
 bnd (f_X1_reopen__56 s10 x2 r9) (fun r11 s12 =>
 nm (x2 + (1 : Int32)) (fun x13 =>
 k1 s12 x13)))
 else
 jq0 (fun s15 =>
 nm (x7 + (1 : Int32)) (fun x16 =>
 k6 s15 x16)) (fun k14 =>
 bnd (f_X1_isAnother__56 s8 x2 x7) (fun r17 s18 =>
 (if r17 = (0 : Int32) then
 k14 s18
 else
 bnd (f_X1_reopen__56 s18 x2 x7) (fun r19 s20 =>
 bnd (f_X2_isFoundWith__60 s20 x2 x7) (fun r21 s22 =>
 (if r21 = (0 : Int32) then
 k14 s22
 else
 some ((0 : Int32), s22))))))))) 100000 s5 (0 : Int32)))) 100000 σ (0 : Int32)
def f_X10_openings__0 (σ : St) (x1 x2 x3 x4 x5 : Int32) : Ot :=
 bnd (f_X4_hasNews__12 σ x1) (fun r6 s7 =>
 (if r6 = (0 : Int32) then
 some ((-1 : Int32), s7)
 else
 bnd (f_X10_within s7 x2 (1 : Int32) (12 : Int32)) (fun r8 s9 =>
 (if r8 = (0 : Int32) then
 some ((-1 : Int32), s9)
 else
 bnd (f_X10_within s9 x5 (0 : Int32) (2 : Int32)) (fun r10 s11 =>
 (if r10 = (0 : Int32) then
 some ((-1 : Int32), s11)
 else
 bnd (f_X4_hasHouses__12 s11 x3) (fun r12 s13 =>
 (if r12 = (0 : Int32) then
 some ((-1 : Int32), s13)
 else
 bnd (f_X4_hasHouses__12 s13 x4) (fun r14 s15 =>
 (if r14 = (0 : Int32) then
 some ((-1 : Int32), s15)
 else
 (if (x3 &&& x4) = (0 : Int32) then
 jq0 (fun s17 =>
 bnd (f_X2_answer__60 s17 x5) (fun r18 s19 =>
 some (r18, s19))) (fun k16 =>
 bnd (f_X2_pose__60 s15 x1 x2 x3 x4) (fun r20 s21 =>
 bnd (f_X2_isFoundByNone__60 s21) (fun r22 s23 =>
 (if r22 = (0 : Int32) then
 bnd (f_X2_isFoundByOne__60 s23) (fun r24 s25 =>
 (if r24 = (0 : Int32) then
 bnd (f_X2_findByTwo__60 s25) (fun r26 s27 =>
 k16 s27)
 else
 k16 s25))
 else
 k16 s23))))
 else
 some ((-1 : Int32), s15))))))))))))
def f_X3_burden__59 (σ : St) (x1 x2 : Int32) : Ot :=
 lq2 (fun k3 s6 x4 x5 =>
 bnd (f_X4_newsTold__12 s6) (fun r7 s8 =>
 (if r7 ≤ x5 then
 some (x4, s8)
 else
 jq1 (fun s11 x10 =>
 nm (x5 + (1 : Int32)) (fun x12 =>
 k3 s11 x10 x12)) (fun k9 =>
 bnd (f_X1_pick__56 s8 x5) (fun r13 s14 =>
 bnd (f_X1_reopen__56 s14 x1 x2) (fun r15 s16 =>
 bnd (f_X1_hears__56 s16 x1 (48 : Int32)) (fun r17 s18 =>
 (if r17 = (0 : Int32) then
 k9 s18 x4
 else
 bnd (f_X4_weightOf__12 s18 x5) (fun r19 s20 =>
 nm ((x4 + r19)) (fun x21 =>
 k9 s20 x21)))))))))) 100000 σ (0 : Int32) (0 : Int32)
def f_X3_widestBorne__59 (σ : St) (x1 x2 : Int32) : Ot :=
 lq1 (fun k3 s5 x4 =>
 (if x4 < (0 : Int32) then
 some ((-4 : Int32), s5)
 else
 bnd (f_X3_burden__59 s5 x1 x4) (fun r6 s7 =>
 (if x2 < r6 then
 nm (x4 + (-1 : Int32)) (fun x8 =>
 k3 s7 x8)
 else
 some (x4, s7))))) 100000 σ (6 : Int32)
def f_X10_bears__0 (σ : St) (x1 x2 : Int32) : Ot :=
 bnd (f_X4_hasHouse__12 σ x1) (fun r3 s4 =>
 (if r3 = (0 : Int32) then
 some ((-1 : Int32), s4)
 else
 bnd (f_X10_within s4 x2 (0 : Int32) (20 : Int32)) (fun r5 s6 =>
 (if r5 = (0 : Int32) then
 some ((-1 : Int32), s6)
 else
 bnd (f_X3_widestBorne__59 s6 x1 x2) (fun r7 s8 =>
 some (r7, s8))))))
def f_X10_at__57 (σ : St) (x1 : Int32) : Ot :=
 jq0 (fun s3 =>
 some ((0 : Int32), s3)) (fun k2 =>
 (if x1 < (0 : Int32) then
 k2 σ
 else
 (if (16 : Int32) ≤ x1 then
 k2 σ
 else
 gd (x1) 16 (some ((σ 57 (Int32.toNatClampNeg x1)), σ)))))
def f_X1_sashOf__56 (σ : St) (x1 : Int32) : Ot :=
 bnd (f_X10_at__57 σ x1) (fun r2 s3 =>
 some (r2, s3))
def f_X3_hearsInSpite__59 (σ : St) (x1 x2 x3 x4 : Int32) : Ot :=
 jq0 (fun s6 =>
 bnd (f_X1_hears__56 s6 x1 x3) (fun r7 s8 =>
 (if r7 = (0 : Int32) then
 some ((0 : Int32), s8)
 else
 lq1 (fun k9 s11 x10 =>
 bnd (f_X4_houses__12 s11) (fun r12 s13 =>
 (if r12 ≤ x10 then
 some ((1 : Int32), s13)
 else
 bnd (f_X1_sashOf__56 s13 x10) (fun r14 s15 =>
 bnd (f_X1_reopen__56 s15 x10 ((if (0 : Int32) < (r14 - (1 : Int32)) then (r14 - (1 : Int32)) else (0 : Int32)))) (fun r16 s17 =>
 bnd (f_X1_hears__56 s17 x1 x3) (fun r18 s19 =>
 bnd (f_X1_reopen__56 s19 x10 r14) (fun r20 s21 =>
 (if r18 = (0 : Int32) then
 some ((0 : Int32), s21)
 else
 nm (x10 + (1 : Int32)) (fun x22 =>
 k9 s21 x22))))))))) 100000 s8 (0 : Int32)))) (fun k5 =>
 bnd (f_X1_pick__56 σ x2) (fun r23 s24 =>
 bnd (f_X4_hasHouse__12 s24 x4) (fun r25 s26 =>
 (if r25 = (0 : Int32) then
 k5 s26
 else
 bnd (f_X9_sashOf__19 s26 x4) (fun r27 s28 =>
 bnd (f_X1_reopen__56 s28 x4 ((if (r27 + (1 : Int32)) < (6 : Int32) then (r27 + (1 : Int32)) else (6 : Int32)))) (fun r29 s30 =>
 k5 s30))))))
def f_X3_bestToOpen__59 (σ : St) (x1 x2 x3 : Int32) : Ot :=
 bnd (f_X3_hearsInSpite__59 σ x1 x2 x3 (16 : Int32)) (fun r4 s5 =>
 (if r4 = (0 : Int32) then
 lq1 (fun k6 s8 x7 =>
 bnd (f_X4_houses__12 s8) (fun r9 s10 =>
 (if r9 ≤ x7 then
 some ((16 : Int32), s10)
 else
 bnd (f_X3_hearsInSpite__59 s10 x1 x2 x3 x7) (fun r11 s12 =>
 (if r11 = (0 : Int32) then
 nm (x7 + (1 : Int32)) (fun x13 =>
 k6 s12 x13)
 else
 some (x7, s12)))))) 100000 s5 (0 : Int32)
 else
 some ((16 : Int32), s5)))
def f_X10_quarrel__0 (σ : St) (x1 x2 x3 x4 : Int32) : Ot :=
 bnd (f_X4_hasHouse__12 σ x1) (fun r5 s6 =>
 (if r5 = (0 : Int32) then
 some ((-1 : Int32), s6)
 else
 bnd (f_X4_hasNews__12 s6 x2) (fun r7 s8 =>
 (if r7 = (0 : Int32) then
 some ((-1 : Int32), s8)
 else
 bnd (f_X10_within s8 x3 (1 : Int32) (12 : Int32)) (fun r9 s10 =>
 (if r9 = (0 : Int32) then
 some ((-1 : Int32), s10)
 else
 bnd (f_X10_within s10 x4 (0 : Int32) (1 : Int32)) (fun r11 s12 =>
 (if r11 = (0 : Int32) then
 some ((-1 : Int32), s12)
 else
 bnd (f_X3_bestToOpen__59 s12 x1 x2 x3) (fun r13 s14 =>
 (if x4 = (1 : Int32) then
 some (r13, s14)
 else
 bnd (f_X3_hearsInSpite__59 s14 x1 x2 x3 r13) (fun r15 s16 =>
 (if r15 = (0 : Int32) then
 some ((0 : Int32), s16)
 else
 some ((1 : Int32), s16)))))))))))))
def f_X10_put__66 (σ : St) (x1 x2 : Int32) : Ot :=
 (if x1 < (0 : Int32) then
 some ((0 : Int32), σ)
 else
 (if (6 : Int32) ≤ x1 then
 some ((0 : Int32), σ)
 else
 gd (x1) 6 (nm (ps σ 66 (x1) (x2)) (fun s3 =>
 some ((0 : Int32), s3)))))
def f_X10_put__63 (σ : St) (x1 x2 : Int32) : Ot :=
 (if x1 < (0 : Int32) then
 some ((0 : Int32), σ)
 else
 (if (6 : Int32) ≤ x1 then
 some ((0 : Int32), σ)
 else
 gd (x1) 6 (nm (ps σ 63 (x1) (x2)) (fun s3 =>
 some ((0 : Int32), s3)))))
def f_X10_put__64 (σ : St) (x1 x2 : Int32) : Ot :=
 (if x1 < (0 : Int32) then
 some ((0 : Int32), σ)
 else
 (if (6 : Int32) ≤ x1 then
 some ((0 : Int32), σ)
 else
 gd (x1) 6 (nm (ps σ 64 (x1) (x2)) (fun s3 =>
 some ((0 : Int32), s3)))))
def f_X10_put__65 (σ : St) (x1 x2 : Int32) : Ot :=
 (if x1 < (0 : Int32) then
 some ((0 : Int32), σ)
 else
 (if (6 : Int32) ≤ x1 then
 some ((0 : Int32), σ)
 else
 gd (x1) 6 (nm (ps σ 65 (x1) (x2)) (fun s3 =>
 some ((0 : Int32), s3)))))
def f_X8_add__62 (σ : St) (x1 x2 x3 x4 : Int32) : Ot :=
 (if (σ 62 6) < (6 : Int32) then
 jq2 (fun s8 x6 x7 =>
 bnd (f_X10_put__66 s8 x7 x6) (fun r9 s10 =>
 nm (pf s10 62 6 (((s10 62 6) + (1 : Int32)))) (fun s11 =>
 some ((1 : Int32), s11)))) (fun k5 =>
 bnd (f_X10_put__63 σ ((σ 62 6)) x1) (fun r12 s13 =>
 bnd (f_X10_put__64 s13 ((s13 62 6)) x2) (fun r14 s15 =>
 bnd (f_X10_put__65 s15 ((s15 62 6)) x3) (fun r16 s17 =>
 (if x4 = (0 : Int32) then
 k5 s17 (0 : Int32) ((s17 62 6))
 else
 k5 s17 (1 : Int32) ((s17 62 6)))))))
 else
 some ((0 : Int32), σ))
def f_X8_size__62 (σ : St) : Ot :=
 some ((σ 62 6), σ)
def f_X10_see__0 (σ : St) (x1 x2 x3 x4 : Int32) : Ot :=
 bnd (f_X4_hasHouse__12 σ x1) (fun r5 s6 =>
 (if r5 = (0 : Int32) then
 some ((-1 : Int32), s6)
 else
 bnd (f_X4_hasNews__12 s6 x2) (fun r7 s8 =>
 (if r7 = (0 : Int32) then
 some ((-1 : Int32), s8)
 else
 bnd (f_X10_within s8 x3 (0 : Int32) (30 : Int32)) (fun r9 s10 =>
 (if r9 = (0 : Int32) then
 some ((-1 : Int32), s10)
 else
 bnd (f_X8_add__62 s10 x1 x2 x3 x4) (fun r11 s12 =>
 (if r11 = (0 : Int32) then
 some ((-3 : Int32), s12)
 else
 bnd (f_X8_size__62 s12) (fun r13 s14 =>
 some (r13, s14))))))))))
def f_X10_forget__0 (σ : St) : Ot :=
 bnd (f_X8_size__62 σ) (fun r1 s2 =>
 bnd (f_X8_clear__62 s2) (fun r3 s4 =>
 some (r1, s4)))
def f_X10_at__64 (σ : St) (x1 : Int32) : Ot :=
 jq0 (fun s3 =>
 some ((0 : Int32), s3)) (fun k2 =>
 (if x1 < (0 : Int32) then
 k2 σ
 else
 (if (6 : Int32) ≤ x1 then
 k2 σ
 else
 gd (x1) 6 (some ((σ 64 (Int32.toNatClampNeg x1)), σ)))))
def f_X10_at__65 (σ : St) (x1 : Int32) : Ot :=
 jq0 (fun s3 =>
 some ((0 : Int32), s3)) (fun k2 =>
 (if x1 < (0 : Int32) then
 k2 σ
 else
 (if (6 : Int32) ≤ x1 then
 k2 σ
 else
 gd (x1) 6 (some ((σ 65 (Int32.toNatClampNeg x1)), σ)))))
def f_X10_at__63 (σ : St) (x1 : Int32) : Ot :=
 jq0 (fun s3 =>
 some ((0 : Int32), s3)) (fun k2 =>
 (if x1 < (0 : Int32) then
 k2 σ
 else
 (if (6 : Int32) ≤ x1 then
 k2 σ
 else
 gd (x1) 6 (some ((σ 63 (Int32.toNatClampNeg x1)), σ)))))
def f_X10_at__66 (σ : St) (x1 : Int32) : Ot :=
 jq0 (fun s3 =>
 some ((0 : Int32), s3)) (fun k2 =>
 (if x1 < (0 : Int32) then
 k2 σ
 else
 (if (6 : Int32) ≤ x1 then
 k2 σ
 else
 gd (x1) 6 (some ((σ 66 (Int32.toNatClampNeg x1)), σ)))))
def f_X8_isSo__62 (σ : St) (x1 x2 : Int32) : Ot :=
 jq2 (fun s6 x4 x5 =>
 (if x5 = x4 then
 some ((1 : Int32), s6)
 else
 some ((0 : Int32), s6))) (fun k3 =>
 bnd (f_X10_at__63 σ x1) (fun r7 s8 =>
 bnd (f_X10_holds s8 x2 r7) (fun r9 s10 =>
 bnd (f_X10_at__66 s10 x1) (fun r11 s12 =>
 (if r11 = (1 : Int32) then
 k3 s12 (1 : Int32) r9
 else
 k3 s12 (0 : Int32) r9)))))
def f_X8_allSoFrom__62 (σ : St) (x1 x2 : Int32) : Ot :=
 bnd (f_X1_pick__56 σ x2) (fun r3 s4 =>
 lq1 (fun k5 s7 x6 =>
 (if (s7 62 6) ≤ x6 then
 some ((1 : Int32), s7)
 else
 jq0 (fun s9 =>
 nm (x6 + (1 : Int32)) (fun x10 =>
 k5 s9 x10)) (fun k8 =>
 bnd (f_X10_at__64 s7 x6) (fun r11 s12 =>
 (if r11 = x2 then
 bnd (f_X10_bit s12 x1) (fun r13 s14 =>
 bnd (f_X10_at__65 s14 x6) (fun r15 s16 =>
 bnd (f_X1_along__56 s16 r13 (0 : Int32) r15) (fun r17 s18 =>
 bnd (f_X8_isSo__62 s18 x6 r17) (fun r19 s20 =>
 (if r19 = (0 : Int32) then
 some ((0 : Int32), s20)
 else
 k8 s20)))))
 else
 k8 s12))))) 100000 s4 (0 : Int32))
def f_X8_beginnings__62 (σ : St) (x1 : Int32) : Ot :=
 lq2 (fun k2 s5 x3 x4 =>
 bnd (f_X4_houses__12 s5) (fun r6 s7 =>
 (if r6 ≤ x4 then
 some (x3, s7)
 else
 jq1 (fun s10 x9 =>
 nm (x4 + (1 : Int32)) (fun x11 =>
 k2 s10 x9 x11)) (fun k8 =>
 bnd (f_X8_allSoFrom__62 s7 x4 x1) (fun r12 s13 =>
 (if r12 = (0 : Int32) then
 k8 s13 x3
 else
 bnd (f_X10_bit s13 x4) (fun r14 s15 =>
 nm ((x3 ||| r14)) (fun x16 =>
 k8 s15 x16)))))))) 100000 σ (0 : Int32) (0 : Int32)
def f_X10_began__0 (σ : St) (x1 : Int32) : Ot :=
 bnd (f_X4_hasNews__12 σ x1) (fun r2 s3 =>
 (if r2 = (0 : Int32) then
 some ((-1 : Int32), s3)
 else
 bnd (f_X8_beginnings__62 s3 x1) (fun r4 s5 =>
 some (r4, s5))))
def f_X8_allSoBy__62 (σ : St) (x1 : Int32) : Ot :=
 lq1 (fun k2 s4 x3 =>
 (if (s4 62 6) ≤ x3 then
 some ((1 : Int32), s4)
 else
 jq1 (fun s7 x6 =>
 bnd (f_X8_isSo__62 s7 x3 x6) (fun r8 s9 =>
 (if r8 = (0 : Int32) then
 some ((0 : Int32), s9)
 else
 nm (x3 + (1 : Int32)) (fun x10 =>
 k2 s9 x10)))) (fun k5 =>
 bnd (f_X10_at__64 s4 x3) (fun r11 s12 =>
 bnd (f_X1_pick__56 s12 r11) (fun r13 s14 =>
 bnd (f_X1_whoKnows__56 s14) (fun r15 s16 =>
 bnd (f_X10_at__65 s16 x3) (fun r17 s18 =>
 (if r17 ≤ (0 : Int32) then
 k5 s18 r15
 else
 bnd (f_X1_onward__56 s18 r15 x1) (fun r19 s20 =>
 bnd (f_X10_at__65 s20 x3) (fun r21 s22 =>
 bnd (f_X1_along__56 s22 r19 (1 : Int32) r21) (fun r23 s24 =>
 k5 s24 r23))))))))))) 100000 σ (0 : Int32)
def f_X8_nextWinds__62 (σ : St) : Ot :=
 lq2 (fun k1 s4 x2 x3 =>
 (if (4 : Int32) < x3 then
 some (x2, s4)
 else
 jq1 (fun s7 x6 =>
 nm (x3 + (1 : Int32)) (fun x8 =>
 k1 s7 x6 x8)) (fun k5 =>
 bnd (f_X8_allSoBy__62 s4 x3) (fun r9 s10 =>
 (if r9 = (0 : Int32) then
 k5 s10 x2
 else
 bnd (f_X10_bit s10 x3) (fun r11 s12 =>
 nm ((x2 ||| r11)) (fun x13 =>
 k5 s12 x13))))))) 100000 σ (0 : Int32) (0 : Int32)
def f_X10_blew__0 (σ : St) : Ot :=
 bnd (f_X8_nextWinds__62 σ) (fun r1 s2 =>
 some (r1, s2))
def f_X0_waysOf (σ : St) (x1 : Int32) : Ot :=
 some (((1 : Int32) <<< (((2 : Int32) * x1) &&& 31)), σ)
def f_X0_gustsThatReach__61 (σ : St) (x1 x2 x3 : Int32) : Ot :=
 bnd (f_X1_pick__56 σ x2) (fun r4 s5 =>
 lq2 (fun k6 s9 x7 x8 =>
 bnd (f_X0_waysOf s9 x3) (fun r10 s11 =>
 (if r10 ≤ x8 then
 some (x7, s11)
 else
 bnd (f_X1_whoKnows__56 s11) (fun r12 s13 =>
 lq2 (fun k14 s17 x15 x16 =>
 (if x3 ≤ x16 then
 jq1 (fun s20 x19 =>
 nm (x8 + (1 : Int32)) (fun x21 =>
 k6 s20 x19 x21)) (fun k18 =>
 bnd (f_X10_holds s17 x15 x1) (fun r22 s23 =>
 (if r22 = (0 : Int32) then
 k18 s23 x7
 else
 nm (x7 + (1 : Int32)) (fun x24 =>
 k18 s23 x24))))
 else
 bnd (f_X1_onward__56 s17 x15 (((1 : Int32) + ((x8 >>> (((2 : Int32) * x16) &&& 31)) &&& (3 : Int32))))) (fun r25 s26 =>
 nm (x16 + (1 : Int32)) (fun x27 =>
 k14 s26 r25 x27)))) 100000 s13 r12 (0 : Int32))))) 100000 s5 (0 : Int32) (0 : Int32))
def f_X0_inLowestTerms__61 (σ : St) (x1 x2 x3 : Int32) : Ot :=
 bnd (f_X0_waysOf σ x2) (fun r4 s5 =>
 lq3 (fun k6 s10 x7 x8 x9 =>
 jq0 (fun s12 =>
 (if x3 = (0 : Int32) then
 some (x7, s12)
 else
 some (x8, s12))) (fun k11 =>
 (if ((2 : Int32) * x2) ≤ x9 then
 k11 s10
 else
 nz ((2 : Int32)) ((if (x7 - x7 / (2 : Int32) * (2 : Int32)) = (0 : Int32) then
 nz ((2 : Int32)) (nm ((x7 / (2 : Int32))) (fun x13 =>
 nz ((2 : Int32)) (nm ((x8 / (2 : Int32))) (fun x14 =>
 nm (x9 + (1 : Int32)) (fun x15 =>
 k6 s10 x13 x14 x15)))))
 else
 k11 s10))))) 100000 s5 x1 r4 (0 : Int32))
def f_X10_gusts__0 (σ : St) (x1 x2 x3 x4 : Int32) : Ot :=
 bnd (f_X4_hasHouse__12 σ x1) (fun r5 s6 =>
 (if r5 = (0 : Int32) then
 some ((-1 : Int32), s6)
 else
 bnd (f_X4_hasNews__12 s6 x2) (fun r7 s8 =>
 (if r7 = (0 : Int32) then
 some ((-1 : Int32), s8)
 else
 bnd (f_X10_within s8 x3 (0 : Int32) (4 : Int32)) (fun r9 s10 =>
 (if r9 = (0 : Int32) then
 some ((-1 : Int32), s10)
 else
 bnd (f_X10_within s10 x4 (0 : Int32) (1 : Int32)) (fun r11 s12 =>
 (if r11 = (0 : Int32) then
 some ((-1 : Int32), s12)
 else
 bnd (f_X0_gustsThatReach__61 s12 x1 x2 x3) (fun r13 s14 =>
 bnd (f_X0_inLowestTerms__61 s14 r13 x3 x4) (fun r15 s16 =>
 some (r15, s16)))))))))))
def f_X0_draw (σ : St) (x1 x2 : Int32) : Ot :=
 nm (((((7919 : Int64) * (Int32.toInt64 x1)) + ((6151 : Int64) * (Int32.toInt64 x2))) + (1 : Int64))) (fun y3 =>
 nzl ((65521 : Int64)) (nzl ((2 : Int64)) (some ((Int64.toInt32 (((y3 * y3) - (y3 * y3) / (65521 : Int64) * (65521 : Int64)) / (2 : Int64))), σ))))
def f_X0_openByDraw__61 (σ : St) (x1 : Int32) : Ot :=
 bnd (f_X4_houses__12 σ) (fun r2 s3 =>
 (if r2 ≤ (0 : Int32) then
 some ((0 : Int32), s3)
 else
 nz (r2) (nz ((16 : Int32)) (nz ((7 : Int32)) (bnd (f_X1_reopen__56 s3 ((x1 - x1 / r2 * r2)) (((x1 / (16 : Int32)) - (x1 / (16 : Int32)) / (7 : Int32) * (7 : Int32)))) (fun r4 s5 =>
 some ((0 : Int32), s5)))))))
def f_X0_runYear__61 (σ : St) (x1 x2 : Int32) : Ot :=
 nm (pf σ 61 3 (0 : Int32)) (fun s3 =>
 lq2 (fun k4 s7 x5 x6 =>
 bnd (f_X4_newsTold__12 s7) (fun r8 s9 =>
 (if r8 ≤ x6 then
 bnd (f_J6_bitCount_0f7a4 s9 x5) (fun r10 s11 =>
 nm (pf s11 61 2 r10) (fun s12 =>
 some ((0 : Int32), s12)))
 else
 bnd (f_X1_pick__56 s9 x6) (fun r13 s14 =>
 bnd (f_X1_whoKnows__56 s14) (fun r15 s16 =>
 lq2 (fun k17 s20 x18 x19 =>
 (if x2 ≤ x19 then
 nm ((x5 ||| x18)) (fun x21 =>
 bnd (f_J6_bitCount_0f7a4 s20 x18) (fun r22 s23 =>
 bnd (f_X1_whoKnows__56 s23) (fun r24 s25 =>
 bnd (f_J6_bitCount_0f7a4 s25 r24) (fun r26 s27 =>
 nm (pf s27 61 3 (((s20 61 3) + (r22 - r26)))) (fun s28 =>
 nm (x6 + (1 : Int32)) (fun x29 =>
 k4 s28 x21 x29))))))
 else
 bnd (f_X0_draw s20 x1 x19) (fun r30 s31 =>
 bnd (f_X0_openByDraw__61 s31 r30) (fun r32 s33 =>
 bnd (f_X1_along__56 s33 x18 x19 ((x19 + (1 : Int32)))) (fun r34 s35 =>
 nm (x19 + (1 : Int32)) (fun x36 =>
 k17 s35 r34 x36)))))) 100000 s16 r15 (0 : Int32)))))) 100000 s3 (0 : Int32) (0 : Int32))
def f_X0_timesHeard__61 (σ : St) : Ot :=
 some ((σ 61 3), σ)
def f_X0_housesThatKnow__61 (σ : St) : Ot :=
 some ((σ 61 2), σ)
def f_X10_year__0 (σ : St) (x1 x2 x3 : Int32) : Ot :=
 bnd (f_X10_within σ x1 (0 : Int32) (9999 : Int32)) (fun r4 s5 =>
 (if r4 = (0 : Int32) then
 some ((-1 : Int32), s5)
 else
 bnd (f_X10_within s5 x2 (1 : Int32) (60 : Int32)) (fun r6 s7 =>
 (if r6 = (0 : Int32) then
 some ((-1 : Int32), s7)
 else
 bnd (f_X10_within s7 x3 (0 : Int32) (1 : Int32)) (fun r8 s9 =>
 (if r8 = (0 : Int32) then
 some ((-1 : Int32), s9)
 else
 bnd (f_X0_runYear__61 s9 x1 x2) (fun r10 s11 =>
 (if x3 = (0 : Int32) then
 bnd (f_X0_housesThatKnow__61 s11) (fun r14 s15 =>
 some (r14, s15))
 else
 bnd (f_X0_timesHeard__61 s11) (fun r12 s13 =>
 some (r12, s13))))))))))
def f_X5_isFull__48 (σ : St) : Ot :=
 (if (σ 48 2) = (2 : Int32) then
 some ((1 : Int32), σ)
 else
 some ((0 : Int32), σ))
def f_X5_placeOf__48 (σ : St) (x1 : Int32) : Ot :=
 (if (2 : Int32) = (0 : Int32) then
 none
 else
 jq0 (fun s3 =>
 none) (fun k2 =>
 bnd (f_J9_floorMod_7cf53 σ (((σ 48 1) + x1)) (2 : Int32)) (fun r4 s5 =>
 (if r4 < (0 : Int32) then
 k2 s5
 else
 (if (2 : Int32) ≤ r4 then
 k2 s5
 else
 (if r4 = (0 : Int32) then
 some ((50 : Int32), s5)
 else
 (if r4 = (1 : Int32) then
 some ((53 : Int32), s5)
 else
 none)))))))
def f_X10_copy__20_51 (σ : St) : Ot :=
 lq1 (fun k1 s3 x2 =>
 (if (16 : Int32) ≤ x2 then
 some ((0 : Int32), s3)
 else
 bnd (f_X10_at__20 s3 x2) (fun r4 s5 =>
 gd (x2) 16 (nm (ps s5 51 (x2) (r4)) (fun s6 =>
 nm (x2 + (1 : Int32)) (fun x7 =>
 k1 s6 x7)))))) 100000 σ (0 : Int32)
def f_X10_copy__21_52 (σ : St) : Ot :=
 lq1 (fun k1 s3 x2 =>
 (if (5 : Int32) ≤ x2 then
 some ((0 : Int32), s3)
 else
 bnd (f_X10_at__21 s3 x2) (fun r4 s5 =>
 gd (x2) 5 (nm (ps s5 52 (x2) (r4)) (fun s6 =>
 nm (x2 + (1 : Int32)) (fun x7 =>
 k1 s6 x7)))))) 100000 σ (0 : Int32)
def f_X9_copyOf__50_19 (σ : St) : Ot :=
 bnd (f_X10_copy__20_51 σ) (fun r1 s2 =>
 bnd (f_X10_copy__21_52 s2) (fun r3 s4 =>
 nm (pf s4 50 2 ((s4 19 2))) (fun s5 =>
 some ((0 : Int32), s5))))
def f_X10_copy__20_54 (σ : St) : Ot :=
 lq1 (fun k1 s3 x2 =>
 (if (16 : Int32) ≤ x2 then
 some ((0 : Int32), s3)
 else
 bnd (f_X10_at__20 s3 x2) (fun r4 s5 =>
 gd (x2) 16 (nm (ps s5 54 (x2) (r4)) (fun s6 =>
 nm (x2 + (1 : Int32)) (fun x7 =>
 k1 s6 x7)))))) 100000 σ (0 : Int32)
def f_X10_copy__21_55 (σ : St) : Ot :=
 lq1 (fun k1 s3 x2 =>
 (if (5 : Int32) ≤ x2 then
 some ((0 : Int32), s3)
 else
 bnd (f_X10_at__21 s3 x2) (fun r4 s5 =>
 gd (x2) 5 (nm (ps s5 55 (x2) (r4)) (fun s6 =>
 nm (x2 + (1 : Int32)) (fun x7 =>
 k1 s6 x7)))))) 100000 σ (0 : Int32)
def f_X9_copyOf__53_19 (σ : St) : Ot :=
 bnd (f_X10_copy__20_54 σ) (fun r1 s2 =>
 bnd (f_X10_copy__21_55 s2) (fun r3 s4 =>
 nm (pf s4 53 2 ((s4 19 2))) (fun s5 =>
 some ((0 : Int32), s5))))
def f_X5_push__48_19 (σ : St) : Ot :=
 bnd (f_X5_placeOf__48 σ ((σ 48 2))) (fun r1 s2 =>
 (if r1 = (50 : Int32) then
 bnd (f_X9_copyOf__50_19 s2) (fun r3 s4 =>
 bnd (f_X5_isFull__48 s4) (fun r5 s6 =>
 (if r5 = (0 : Int32) then
 nm (pf s6 48 2 (((s6 48 2) + (1 : Int32)))) (fun s7 =>
 some ((0 : Int32), s7))
 else
 nm (pf s6 48 1 (((s6 48 1) + (1 : Int32)))) (fun s8 =>
 some ((0 : Int32), s8)))))
 else
 (if r1 = (53 : Int32) then
 bnd (f_X9_copyOf__53_19 s2) (fun r9 s10 =>
 bnd (f_X5_isFull__48 s10) (fun r11 s12 =>
 (if r11 = (0 : Int32) then
 nm (pf s12 48 2 (((s12 48 2) + (1 : Int32)))) (fun s13 =>
 some ((0 : Int32), s13))
 else
 nm (pf s12 48 1 (((s12 48 1) + (1 : Int32)))) (fun s14 =>
 some ((0 : Int32), s14)))))
 else
 none)))
def f_X5_size__48 (σ : St) : Ot :=
 some ((σ 48 2), σ)
def f_X10_keep__0 (σ : St) : Ot :=
 bnd (f_X5_isFull__48 σ) (fun r1 s2 =>
 (if r1 = (0 : Int32) then
 bnd (f_X5_push__48_19 s2) (fun r3 s4 =>
 bnd (f_X5_size__48 s4) (fun r5 s6 =>
 some (r5, s6)))
 else
 some ((-3 : Int32), s2)))
def f_X10_at__51 (σ : St) (x1 : Int32) : Ot :=
 jq0 (fun s3 =>
 some ((0 : Int32), s3)) (fun k2 =>
 (if x1 < (0 : Int32) then
 k2 σ
 else
 (if (16 : Int32) ≤ x1 then
 k2 σ
 else
 gd (x1) 16 (some ((σ 51 (Int32.toNatClampNeg x1)), σ)))))
def f_X10_copy__51_20 (σ : St) : Ot :=
 lq1 (fun k1 s3 x2 =>
 (if (16 : Int32) ≤ x2 then
 some ((0 : Int32), s3)
 else
 bnd (f_X10_at__51 s3 x2) (fun r4 s5 =>
 gd (x2) 16 (nm (ps s5 20 (x2) (r4)) (fun s6 =>
 nm (x2 + (1 : Int32)) (fun x7 =>
 k1 s6 x7)))))) 100000 σ (0 : Int32)
def f_X10_at__52 (σ : St) (x1 : Int32) : Ot :=
 jq0 (fun s3 =>
 some ((0 : Int32), s3)) (fun k2 =>
 (if x1 < (0 : Int32) then
 k2 σ
 else
 (if (5 : Int32) ≤ x1 then
 k2 σ
 else
 gd (x1) 5 (some ((σ 52 (Int32.toNatClampNeg x1)), σ)))))
def f_X10_copy__52_21 (σ : St) : Ot :=
 lq1 (fun k1 s3 x2 =>
 (if (5 : Int32) ≤ x2 then
 some ((0 : Int32), s3)
 else
 bnd (f_X10_at__52 s3 x2) (fun r4 s5 =>
 gd (x2) 5 (nm (ps s5 21 (x2) (r4)) (fun s6 =>
 nm (x2 + (1 : Int32)) (fun x7 =>
 k1 s6 x7)))))) 100000 σ (0 : Int32)
def f_X9_copyOf__19_50 (σ : St) : Ot :=
 bnd (f_X10_copy__51_20 σ) (fun r1 s2 =>
 bnd (f_X10_copy__52_21 s2) (fun r3 s4 =>
 nm (pf s4 19 2 ((s4 50 2))) (fun s5 =>
 some ((0 : Int32), s5))))
def f_X10_at__54 (σ : St) (x1 : Int32) : Ot :=
 jq0 (fun s3 =>
 some ((0 : Int32), s3)) (fun k2 =>
 (if x1 < (0 : Int32) then
 k2 σ
 else
 (if (16 : Int32) ≤ x1 then
 k2 σ
 else
 gd (x1) 16 (some ((σ 54 (Int32.toNatClampNeg x1)), σ)))))
def f_X10_copy__54_20 (σ : St) : Ot :=
 lq1 (fun k1 s3 x2 =>
 (if (16 : Int32) ≤ x2 then
 some ((0 : Int32), s3)
 else
 bnd (f_X10_at__54 s3 x2) (fun r4 s5 =>
 gd (x2) 16 (nm (ps s5 20 (x2) (r4)) (fun s6 =>
 nm (x2 + (1 : Int32)) (fun x7 =>
 k1 s6 x7)))))) 100000 σ (0 : Int32)
def f_X10_at__55 (σ : St) (x1 : Int32) : Ot :=
 jq0 (fun s3 =>
 some ((0 : Int32), s3)) (fun k2 =>
 (if x1 < (0 : Int32) then
 k2 σ
 else
 (if (5 : Int32) ≤ x1 then
 k2 σ
 else
 gd (x1) 5 (some ((σ 55 (Int32.toNatClampNeg x1)), σ)))))
def f_X10_copy__55_21 (σ : St) : Ot :=
 lq1 (fun k1 s3 x2 =>
 (if (5 : Int32) ≤ x2 then
 some ((0 : Int32), s3)
 else
 bnd (f_X10_at__55 s3 x2) (fun r4 s5 =>
 gd (x2) 5 (nm (ps s5 21 (x2) (r4)) (fun s6 =>
 nm (x2 + (1 : Int32)) (fun x7 =>
 k1 s6 x7)))))) 100000 σ (0 : Int32)
def f_X9_copyOf__19_53 (σ : St) : Ot :=
 bnd (f_X10_copy__54_20 σ) (fun r1 s2 =>
 bnd (f_X10_copy__55_21 s2) (fun r3 s4 =>
 nm (pf s4 19 2 ((s4 53 2))) (fun s5 =>
 some ((0 : Int32), s5))))
def f_X5_popInto__48_19 (σ : St) : Ot :=
 (if (σ 48 2) = (0 : Int32) then
 some ((0 : Int32), σ)
 else
 bnd (f_X5_placeOf__48 σ (((σ 48 2) - (1 : Int32)))) (fun r1 s2 =>
 (if r1 = (50 : Int32) then
 bnd (f_X9_copyOf__19_50 s2) (fun r3 s4 =>
 nm (pf s4 48 2 (((s4 48 2) - (1 : Int32)))) (fun s5 =>
 some ((1 : Int32), s5)))
 else
 (if r1 = (53 : Int32) then
 bnd (f_X9_copyOf__19_53 s2) (fun r6 s7 =>
 nm (pf s7 48 2 (((s7 48 2) - (1 : Int32)))) (fun s8 =>
 some ((1 : Int32), s8)))
 else
 none))))
def f_X10_back__0 (σ : St) : Ot :=
 bnd (f_X5_popInto__48_19 σ) (fun r1 s2 =>
 (if r1 = (0 : Int32) then
 some ((-2 : Int32), s2)
 else
 bnd (f_X5_clear__22 s2) (fun r3 s4 =>
 bnd (f_X5_size__48 s4) (fun r5 s6 =>
 some (r5, s6)))))
def f_X4_rows__12 (σ : St) : Ot :=
 some ((σ 12 6), σ)
def f_X9_whoKnowsAny__19 (σ : St) : Ot :=
 lq2 (fun k1 s4 x2 x3 =>
 (if (5 : Int32) ≤ x3 then
 some (x2, s4)
 else
 bnd (f_X9_whoKnows__19 s4 x3) (fun r5 s6 =>
 nm ((x2 ||| r5)) (fun x7 =>
 nm (x3 + (1 : Int32)) (fun x8 =>
 k1 s6 x7 x8))))) 100000 σ (0 : Int32) (0 : Int32)
def f_X10_count__0 (σ : St) (x1 : Int32) : Ot :=
 (if x1 = (0 : Int32) then
 bnd (f_X4_houses__12 σ) (fun r3 s4 =>
 some (r3, s4))
 else
 (if x1 = (1 : Int32) then
 bnd (f_X4_rows__12 σ) (fun r5 s6 =>
 some (r5, s6))
 else
 (if x1 = (2 : Int32) then
 bnd (f_X4_newsTold__12 σ) (fun r7 s8 =>
 some (r7, s8))
 else
 (if x1 = (3 : Int32) then
 bnd (f_X4_windsInTurn__12 σ) (fun r9 s10 =>
 some (r9, s10))
 else
 (if x1 = (4 : Int32) then
 bnd (f_X9_stepsGone__19 σ) (fun r11 s12 =>
 some (r11, s12))
 else
 (if x1 = (5 : Int32) then
 bnd (f_X9_whoKnowsAny__19 σ) (fun r13 s14 =>
 bnd (f_J6_bitCount_0f7a4 s14 r13) (fun r15 s16 =>
 some (r15, s16)))
 else
 (if x1 = (6 : Int32) then
 bnd (f_X8_size__62 σ) (fun r17 s18 =>
 some (r17, s18))
 else
 (if x1 = (7 : Int32) then
 bnd (f_X5_size__22 σ) (fun r19 s20 =>
 some (r19, s20))
 else
 (if x1 = (8 : Int32) then
 bnd (f_X5_size__48 σ) (fun r21 s22 =>
 some (r21, s22))
 else
 (if x1 = (9 : Int32) then
 bnd (f_X7_length__1 σ) (fun r23 s24 =>
 some (r23, s24))
 else
 some ((-1 : Int32), σ)))))))))))
