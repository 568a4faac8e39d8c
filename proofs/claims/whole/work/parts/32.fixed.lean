/-! ===== what never changes behind the constructors: kinds of the first cells, where their references lead (printed out of wip/tools/emu.py layout) ===== -/
def kt : Nat → Nat × Nat := fun a => (cond (Nat.ble a 51)
 (cond (Nat.ble a 25)
  (cond (Nat.ble a 12)
   (cond (Nat.ble a 6)
    (cond (Nat.ble a 3)
     (cond (Nat.ble a 1)
      (cond (Nat.beq a 1) (8, 12) (99, 0))
      (cond (Nat.ble a 2)
       (cond (Nat.beq a 2) (2, 9) (99, 0))
       (cond (Nat.beq a 3) (30, 400) (99, 0))))
     (cond (Nat.ble a 4)
      (cond (Nat.beq a 4) (30, 400) (99, 0))
      (cond (Nat.ble a 5)
       (cond (Nat.beq a 5) (30, 400) (99, 0))
       (cond (Nat.beq a 6) (30, 400) (99, 0)))))
    (cond (Nat.ble a 9)
     (cond (Nat.ble a 7)
      (cond (Nat.beq a 7) (30, 400) (99, 0))
      (cond (Nat.ble a 8)
       (cond (Nat.beq a 8) (30, 100) (99, 0))
       (cond (Nat.beq a 9) (6, 6) (99, 0))))
     (cond (Nat.ble a 10)
      (cond (Nat.beq a 10) (30, 200) (99, 0))
      (cond (Nat.ble a 11)
       (cond (Nat.beq a 11) (1, 5) (99, 0))
       (cond (Nat.beq a 12) (36, 12) (99, 0))))))
   (cond (Nat.ble a 18)
    (cond (Nat.ble a 15)
     (cond (Nat.ble a 13)
      (cond (Nat.beq a 13) (0, 7) (99, 0))
      (cond (Nat.ble a 14)
       (cond (Nat.beq a 14) (37, 7) (99, 0))
       (cond (Nat.beq a 15) (30, 16) (99, 0))))
     (cond (Nat.ble a 16)
      (cond (Nat.beq a 16) (30, 16) (99, 0))
      (cond (Nat.ble a 17)
       (cond (Nat.beq a 17) (30, 16) (99, 0))
       (cond (Nat.beq a 18) (30, 16) (99, 0)))))
    (cond (Nat.ble a 21)
     (cond (Nat.ble a 19)
      (cond (Nat.beq a 19) (30, 16) (99, 0))
      (cond (Nat.ble a 20)
       (cond (Nat.beq a 20) (30, 16) (99, 0))
       (cond (Nat.beq a 21) (30, 16) (99, 0))))
     (cond (Nat.ble a 23)
      (cond (Nat.ble a 22)
       (cond (Nat.beq a 22) (37, 7) (99, 0))
       (cond (Nat.beq a 23) (30, 16) (99, 0)))
      (cond (Nat.ble a 24)
       (cond (Nat.beq a 24) (30, 16) (99, 0))
       (cond (Nat.beq a 25) (30, 16) (99, 0)))))))
  (cond (Nat.ble a 38)
   (cond (Nat.ble a 31)
    (cond (Nat.ble a 28)
     (cond (Nat.ble a 26)
      (cond (Nat.beq a 26) (30, 16) (99, 0))
      (cond (Nat.ble a 27)
       (cond (Nat.beq a 27) (30, 16) (99, 0))
       (cond (Nat.beq a 28) (30, 16) (99, 0))))
     (cond (Nat.ble a 29)
      (cond (Nat.beq a 29) (30, 16) (99, 0))
      (cond (Nat.ble a 30)
       (cond (Nat.beq a 30) (37, 7) (99, 0))
       (cond (Nat.beq a 31) (30, 16) (99, 0)))))
    (cond (Nat.ble a 34)
     (cond (Nat.ble a 32)
      (cond (Nat.beq a 32) (30, 16) (99, 0))
      (cond (Nat.ble a 33)
       (cond (Nat.beq a 33) (30, 16) (99, 0))
       (cond (Nat.beq a 34) (30, 16) (99, 0))))
     (cond (Nat.ble a 36)
      (cond (Nat.ble a 35)
       (cond (Nat.beq a 35) (30, 16) (99, 0))
       (cond (Nat.beq a 36) (30, 16) (99, 0)))
      (cond (Nat.ble a 37)
       (cond (Nat.beq a 37) (30, 16) (99, 0))
       (cond (Nat.beq a 38) (30, 200) (99, 0))))))
   (cond (Nat.ble a 44)
    (cond (Nat.ble a 41)
     (cond (Nat.ble a 39)
      (cond (Nat.beq a 39) (3, 8) (99, 0))
      (cond (Nat.ble a 40)
       (cond (Nat.beq a 40) (30, 16) (99, 0))
       (cond (Nat.beq a 41) (3, 8) (99, 0))))
     (cond (Nat.ble a 42)
      (cond (Nat.beq a 42) (30, 16) (99, 0))
      (cond (Nat.ble a 43)
       (cond (Nat.beq a 43) (3, 8) (99, 0))
       (cond (Nat.beq a 44) (30, 16) (99, 0)))))
    (cond (Nat.ble a 47)
     (cond (Nat.ble a 45)
      (cond (Nat.beq a 45) (3, 8) (99, 0))
      (cond (Nat.ble a 46)
       (cond (Nat.beq a 46) (30, 16) (99, 0))
       (cond (Nat.beq a 47) (3, 8) (99, 0))))
     (cond (Nat.ble a 49)
      (cond (Nat.ble a 48)
       (cond (Nat.beq a 48) (30, 16) (99, 0))
       (cond (Nat.beq a 49) (3, 8) (99, 0)))
      (cond (Nat.ble a 50)
       (cond (Nat.beq a 50) (30, 16) (99, 0))
       (cond (Nat.beq a 51) (3, 8) (99, 0))))))))
 (cond (Nat.ble a 76)
  (cond (Nat.ble a 63)
   (cond (Nat.ble a 57)
    (cond (Nat.ble a 54)
     (cond (Nat.ble a 52)
      (cond (Nat.beq a 52) (30, 16) (99, 0))
      (cond (Nat.ble a 53)
       (cond (Nat.beq a 53) (3, 8) (99, 0))
       (cond (Nat.beq a 54) (30, 16) (99, 0))))
     (cond (Nat.ble a 55)
      (cond (Nat.beq a 55) (3, 8) (99, 0))
      (cond (Nat.ble a 56)
       (cond (Nat.beq a 56) (30, 16) (99, 0))
       (cond (Nat.beq a 57) (3, 8) (99, 0)))))
    (cond (Nat.ble a 60)
     (cond (Nat.ble a 58)
      (cond (Nat.beq a 58) (30, 16) (99, 0))
      (cond (Nat.ble a 59)
       (cond (Nat.beq a 59) (3, 8) (99, 0))
       (cond (Nat.beq a 60) (30, 16) (99, 0))))
     (cond (Nat.ble a 61)
      (cond (Nat.beq a 61) (3, 8) (99, 0))
      (cond (Nat.ble a 62)
       (cond (Nat.beq a 62) (30, 16) (99, 0))
       (cond (Nat.beq a 63) (7, 4) (99, 0))))))
   (cond (Nat.ble a 69)
    (cond (Nat.ble a 66)
     (cond (Nat.ble a 64)
      (cond (Nat.beq a 64) (30, 256) (99, 0))
      (cond (Nat.ble a 65)
       (cond (Nat.beq a 65) (30, 16) (99, 0))
       (cond (Nat.beq a 66) (30, 16) (99, 0))))
     (cond (Nat.ble a 67)
      (cond (Nat.beq a 67) (30, 16) (99, 0))
      (cond (Nat.ble a 68)
       (cond (Nat.beq a 68) (34, 72) (99, 0))
       (cond (Nat.beq a 69) (35, 6) (99, 0)))))
    (cond (Nat.ble a 72)
     (cond (Nat.ble a 70)
      (cond (Nat.beq a 70) (30, 8) (99, 0))
      (cond (Nat.ble a 71)
       (cond (Nat.beq a 71) (30, 256) (99, 0))
       (cond (Nat.beq a 72) (9, 48) (99, 0))))
     (cond (Nat.ble a 74)
      (cond (Nat.ble a 73)
       (cond (Nat.beq a 73) (30, 400) (99, 0))
       (cond (Nat.beq a 74) (30, 400) (99, 0)))
      (cond (Nat.ble a 75)
       (cond (Nat.beq a 75) (30, 400) (99, 0))
       (cond (Nat.beq a 76) (30, 400) (99, 0)))))))
  (cond (Nat.ble a 89)
   (cond (Nat.ble a 82)
    (cond (Nat.ble a 79)
     (cond (Nat.ble a 77)
      (cond (Nat.beq a 77) (31, 400) (99, 0))
      (cond (Nat.ble a 78)
       (cond (Nat.beq a 78) (31, 6) (99, 0))
       (cond (Nat.beq a 79) (30, 6) (99, 0))))
     (cond (Nat.ble a 80)
      (cond (Nat.beq a 80) (30, 72) (99, 0))
      (cond (Nat.ble a 81)
       (cond (Nat.beq a 81) (30, 72) (99, 0))
       (cond (Nat.beq a 82) (30, 72) (99, 0)))))
    (cond (Nat.ble a 85)
     (cond (Nat.ble a 83)
      (cond (Nat.beq a 83) (30, 72) (99, 0))
      (cond (Nat.ble a 84)
       (cond (Nat.beq a 84) (30, 72) (99, 0))
       (cond (Nat.beq a 85) (30, 14400) (99, 0))))
     (cond (Nat.ble a 87)
      (cond (Nat.ble a 86)
       (cond (Nat.beq a 86) (30, 72) (99, 0))
       (cond (Nat.beq a 87) (30, 14400) (99, 0)))
      (cond (Nat.ble a 88)
       (cond (Nat.beq a 88) (30, 72) (99, 0))
       (cond (Nat.beq a 89) (30, 200) (99, 0))))))
   (cond (Nat.ble a 95)
    (cond (Nat.ble a 92)
     (cond (Nat.ble a 90)
      (cond (Nat.beq a 90) (30, 200) (99, 0))
      (cond (Nat.ble a 91)
       (cond (Nat.beq a 91) (30, 200) (99, 0))
       (cond (Nat.beq a 92) (30, 72) (99, 0))))
     (cond (Nat.ble a 93)
      (cond (Nat.beq a 93) (30, 72) (99, 0))
      (cond (Nat.ble a 94)
       (cond (Nat.beq a 94) (31, 72) (99, 0))
       (cond (Nat.beq a 95) (31, 1024) (99, 0)))))
    (cond (Nat.ble a 98)
     (cond (Nat.ble a 96)
      (cond (Nat.beq a 96) (30, 3072) (99, 0))
      (cond (Nat.ble a 97)
       (cond (Nat.beq a 97) (30, 100) (99, 0))
       (cond (Nat.beq a 98) (30, 256) (99, 0))))
     (cond (Nat.ble a 100)
      (cond (Nat.ble a 99)
       (cond (Nat.beq a 99) (30, 8) (99, 0))
       (cond (Nat.beq a 100) (31, 8) (99, 0)))
      (cond (Nat.ble a 101)
       (cond (Nat.beq a 101) (30, 16) (99, 0))
       (cond (Nat.beq a 102) (32, 1) (99, 0)))))))))
def pt : Nat → Nat → Nat := fun a f => (cond (Nat.ble a 41)
 (cond (Nat.ble a 12)
  (cond (Nat.ble a 2)
   (cond (Nat.ble a 1)
    (cond (Nat.beq a 1) (cond (Nat.ble f 3)
   (cond (Nat.ble f 1)
    (cond (Nat.ble f 0)
     (cond (Nat.beq f 0) 2 0)
     (cond (Nat.beq f 1) 9 0))
    (cond (Nat.ble f 2)
     (cond (Nat.beq f 2) 11 0)
     (cond (Nat.beq f 3) 63 0)))
   (cond (Nat.ble f 5)
    (cond (Nat.ble f 4)
     (cond (Nat.beq f 4) 68 0)
     (cond (Nat.beq f 5) 69 0))
    (cond (Nat.ble f 6)
     (cond (Nat.beq f 6) 70 0)
     (cond (Nat.beq f 7) 71 0)))) 0)
    (cond (Nat.beq a 2) (cond (Nat.ble f 2)
   (cond (Nat.ble f 0)
    (cond (Nat.beq f 0) 3 0)
    (cond (Nat.ble f 1)
     (cond (Nat.beq f 1) 4 0)
     (cond (Nat.beq f 2) 5 0)))
   (cond (Nat.ble f 3)
    (cond (Nat.beq f 3) 6 0)
    (cond (Nat.ble f 4)
     (cond (Nat.beq f 4) 7 0)
     (cond (Nat.beq f 5) 8 0)))) 0))
   (cond (Nat.ble a 9)
    (cond (Nat.beq a 9) (cond (Nat.beq f 0) 10 0) 0)
    (cond (Nat.ble a 11)
     (cond (Nat.beq a 11) (cond (Nat.ble f 0)
   (cond (Nat.beq f 0) 9 0)
   (cond (Nat.ble f 1)
    (cond (Nat.beq f 1) 13 0)
    (cond (Nat.beq f 2) 12 0))) 0)
     (cond (Nat.beq a 12) (cond (Nat.ble f 5)
   (cond (Nat.ble f 2)
    (cond (Nat.ble f 0)
     (cond (Nat.beq f 0) 39 0)
     (cond (Nat.ble f 1)
      (cond (Nat.beq f 1) 41 0)
      (cond (Nat.beq f 2) 43 0)))
    (cond (Nat.ble f 3)
     (cond (Nat.beq f 3) 45 0)
     (cond (Nat.ble f 4)
      (cond (Nat.beq f 4) 47 0)
      (cond (Nat.beq f 5) 49 0))))
   (cond (Nat.ble f 8)
    (cond (Nat.ble f 6)
     (cond (Nat.beq f 6) 51 0)
     (cond (Nat.ble f 7)
      (cond (Nat.beq f 7) 53 0)
      (cond (Nat.beq f 8) 55 0)))
    (cond (Nat.ble f 9)
     (cond (Nat.beq f 9) 57 0)
     (cond (Nat.ble f 10)
      (cond (Nat.beq f 10) 59 0)
      (cond (Nat.beq f 11) 61 0))))) 0))))
  (cond (Nat.ble a 22)
   (cond (Nat.ble a 13)
    (cond (Nat.beq a 13) (cond (Nat.ble f 1)
   (cond (Nat.ble f 0)
    (cond (Nat.beq f 0) 9 0)
    (cond (Nat.beq f 1) 14 0))
   (cond (Nat.ble f 2)
    (cond (Nat.beq f 2) 22 0)
    (cond (Nat.ble f 3)
     (cond (Nat.beq f 3) 30 0)
     (cond (Nat.beq f 4) 38 0)))) 0)
    (cond (Nat.ble a 14)
     (cond (Nat.beq a 14) (cond (Nat.ble f 2)
   (cond (Nat.ble f 0)
    (cond (Nat.beq f 0) 15 0)
    (cond (Nat.ble f 1)
     (cond (Nat.beq f 1) 16 0)
     (cond (Nat.beq f 2) 17 0)))
   (cond (Nat.ble f 4)
    (cond (Nat.ble f 3)
     (cond (Nat.beq f 3) 18 0)
     (cond (Nat.beq f 4) 19 0))
    (cond (Nat.ble f 5)
     (cond (Nat.beq f 5) 20 0)
     (cond (Nat.beq f 6) 21 0)))) 0)
     (cond (Nat.beq a 22) (cond (Nat.ble f 2)
   (cond (Nat.ble f 0)
    (cond (Nat.beq f 0) 23 0)
    (cond (Nat.ble f 1)
     (cond (Nat.beq f 1) 24 0)
     (cond (Nat.beq f 2) 25 0)))
   (cond (Nat.ble f 4)
    (cond (Nat.ble f 3)
     (cond (Nat.beq f 3) 26 0)
     (cond (Nat.beq f 4) 27 0))
    (cond (Nat.ble f 5)
     (cond (Nat.beq f 5) 28 0)
     (cond (Nat.beq f 6) 29 0)))) 0)))
   (cond (Nat.ble a 30)
    (cond (Nat.beq a 30) (cond (Nat.ble f 2)
   (cond (Nat.ble f 0)
    (cond (Nat.beq f 0) 31 0)
    (cond (Nat.ble f 1)
     (cond (Nat.beq f 1) 32 0)
     (cond (Nat.beq f 2) 33 0)))
   (cond (Nat.ble f 4)
    (cond (Nat.ble f 3)
     (cond (Nat.beq f 3) 34 0)
     (cond (Nat.beq f 4) 35 0))
    (cond (Nat.ble f 5)
     (cond (Nat.beq f 5) 36 0)
     (cond (Nat.beq f 6) 37 0)))) 0)
    (cond (Nat.ble a 39)
     (cond (Nat.beq a 39) (cond (Nat.beq f 7) 40 0) 0)
     (cond (Nat.beq a 41) (cond (Nat.beq f 7) 42 0) 0)))))
 (cond (Nat.ble a 53)
  (cond (Nat.ble a 47)
   (cond (Nat.ble a 43)
    (cond (Nat.beq a 43) (cond (Nat.beq f 7) 44 0) 0)
    (cond (Nat.ble a 45)
     (cond (Nat.beq a 45) (cond (Nat.beq f 7) 46 0) 0)
     (cond (Nat.beq a 47) (cond (Nat.beq f 7) 48 0) 0)))
   (cond (Nat.ble a 49)
    (cond (Nat.beq a 49) (cond (Nat.beq f 7) 50 0) 0)
    (cond (Nat.ble a 51)
     (cond (Nat.beq a 51) (cond (Nat.beq f 7) 52 0) 0)
     (cond (Nat.beq a 53) (cond (Nat.beq f 7) 54 0) 0))))
  (cond (Nat.ble a 59)
   (cond (Nat.ble a 55)
    (cond (Nat.beq a 55) (cond (Nat.beq f 7) 56 0) 0)
    (cond (Nat.ble a 57)
     (cond (Nat.beq a 57) (cond (Nat.beq f 7) 58 0) 0)
     (cond (Nat.beq a 59) (cond (Nat.beq f 7) 60 0) 0)))
   (cond (Nat.ble a 61)
    (cond (Nat.beq a 61) (cond (Nat.beq f 7) 62 0) 0)
    (cond (Nat.ble a 63)
     (cond (Nat.beq a 63) (cond (Nat.ble f 1)
   (cond (Nat.ble f 0)
    (cond (Nat.beq f 0) 64 0)
    (cond (Nat.beq f 1) 65 0))
   (cond (Nat.ble f 2)
    (cond (Nat.beq f 2) 66 0)
    (cond (Nat.beq f 3) 67 0))) 0)
     (cond (Nat.beq a 72) (cond (Nat.ble f 18)
   (cond (Nat.ble f 11)
    (cond (Nat.ble f 6)
     (cond (Nat.ble f 4)
      (cond (Nat.beq f 4) 73 0)
      (cond (Nat.ble f 5)
       (cond (Nat.beq f 5) 74 0)
       (cond (Nat.beq f 6) 75 0)))
     (cond (Nat.ble f 8)
      (cond (Nat.ble f 7)
       (cond (Nat.beq f 7) 76 0)
       (cond (Nat.beq f 8) 77 0))
      (cond (Nat.ble f 10)
       (cond (Nat.beq f 10) 78 0)
       (cond (Nat.beq f 11) 79 0))))
    (cond (Nat.ble f 14)
     (cond (Nat.ble f 12)
      (cond (Nat.beq f 12) 80 0)
      (cond (Nat.ble f 13)
       (cond (Nat.beq f 13) 81 0)
       (cond (Nat.beq f 14) 82 0)))
     (cond (Nat.ble f 16)
      (cond (Nat.ble f 15)
       (cond (Nat.beq f 15) 83 0)
       (cond (Nat.beq f 16) 84 0))
      (cond (Nat.ble f 17)
       (cond (Nat.beq f 17) 85 0)
       (cond (Nat.beq f 18) 86 0)))))
   (cond (Nat.ble f 37)
    (cond (Nat.ble f 29)
     (cond (Nat.ble f 19)
      (cond (Nat.beq f 19) 87 0)
      (cond (Nat.ble f 20)
       (cond (Nat.beq f 20) 88 0)
       (cond (Nat.beq f 29) 89 0)))
     (cond (Nat.ble f 33)
      (cond (Nat.ble f 32)
       (cond (Nat.beq f 32) 90 0)
       (cond (Nat.beq f 33) 91 0))
      (cond (Nat.ble f 36)
       (cond (Nat.beq f 36) 92 0)
       (cond (Nat.beq f 37) 93 0))))
    (cond (Nat.ble f 42)
     (cond (Nat.ble f 39)
      (cond (Nat.ble f 38)
       (cond (Nat.beq f 38) 94 0)
       (cond (Nat.beq f 39) 95 0))
      (cond (Nat.ble f 41)
       (cond (Nat.beq f 41) 96 0)
       (cond (Nat.beq f 42) 97 0)))
     (cond (Nat.ble f 45)
      (cond (Nat.ble f 43)
       (cond (Nat.beq f 43) 98 0)
       (cond (Nat.beq f 45) 99 0))
      (cond (Nat.ble f 46)
       (cond (Nat.beq f 46) 100 0)
       (cond (Nat.beq f 47) 101 0)))))) 0))))))
/-- the fixed part of the heap; g: the script's length and ints -/
def kf (g : Nat × (Nat → Int32)) (h : ka_H) : Prop := 103 ≤ h.1 ∧ (∀ a, Nat.blt a 103 = true → ka_K h a = kt a) ∧ (∀ a f, Nat.blt a 103 = true → Nat.beq (pt a f) 0 = false → ka_P h a f = pt a f) ∧ ∀ i, ka_K h (1000000 + i) = kp_sK g.1 i ∧ ∀ j, ka_I h (1000000 + i) j = kp_sI g.2 i j ∧ ka_P h (1000000 + i) j = ka_sRf i j
def kq_o (h : ka_H) (a ci : Nat) (X : Prop) : Prop := cond (Nat.blt a 103) (cond (Nat.beq (kt a).1 ci) X False) ((ka_K h a).1 = ci ∧ X)
def kq_p (h : ka_H) (a f : Nat) : Nat := cond (Nat.blt a 103) (cond (Nat.beq (pt a f) 0) (ka_P h a f) (pt a f)) (ka_P h a f)
def kq_z (h : ka_H) (a : Nat) : Nat := cond (Nat.blt a 103) (kt a).2 (ka_K h a).2
def kq_w (a f : Nat) (X : Prop) : Prop := cond (Nat.blt a 103) (cond (Nat.beq (pt a f) 0) X False) X
theorem kq_o_s {g : Nat × (Nat → Int32)} {h : ka_H} (hf : kf g h) {a ci : Nat} {X : Prop} (q : kq_o h a ci X) : (ka_K h a).1 = ci ∧ X := by
  unfold kq_o at q
  cases hb : Nat.blt a 103 with
  | false => rw [hb] at q; exact q
  | true =>
    rw [hb] at q
    cases hc : Nat.beq (kt a).1 ci with
    | false => rw [hc] at q; exact q.elim
    | true => rw [hc] at q; exact ⟨by rw [hf.2.1 a hb]; exact Nat.eq_of_beq_eq_true hc, q⟩
theorem kq_p_s {g : Nat × (Nat → Int32)} {h : ka_H} (hf : kf g h) (a f : Nat) : kq_p h a f = ka_P h a f := by
  unfold kq_p
  cases hb : Nat.blt a 103 with
  | false => rfl
  | true =>
    cases hc : Nat.beq (pt a f) 0 with
    | true => rfl
    | false => exact (hf.2.2.1 a f hb hc).symm
theorem kq_z_s {g : Nat × (Nat → Int32)} {h : ka_H} (hf : kf g h) (a : Nat) : kq_z h a = (ka_K h a).2 := by
  unfold kq_z
  cases hb : Nat.blt a 103 with
  | false => rfl
  | true => show (kt a).2 = _; rw [hf.2.1 a hb]
theorem kq_w_s {a f : Nat} {X : Prop} (q : kq_w a f X) : (Nat.blt a 103 = true → Nat.beq (pt a f) 0 = true) ∧ X := by
  unfold kq_w at q
  cases hb : Nat.blt a 103 with
  | false => rw [hb] at q; exact ⟨fun z => (by cases z), q⟩
  | true =>
    rw [hb] at q
    cases hc : Nat.beq (pt a f) 0 with
    | false => rw [hc] at q; exact q.elim
    | true => rw [hc] at q; exact ⟨fun _ => rfl, q⟩
theorem kf_sI {g : Nat × (Nat → Int32)} {h : ka_H} (hf : kf g h) {a k : Nat} {v : Int32} (ha : (ka_K h a).1 < 34 ∧ (ka_K h a).1 ≠ 20 ∧ (ka_K h a).1 ≠ 21 ∧ (ka_K h a).1 ≠ 33) : kf g (ka_sI h a k v) := by
  refine ⟨hf.1, hf.2.1, hf.2.2.1, fun i => ⟨(hf.2.2.2 i).1, fun j => ⟨?_, ((hf.2.2.2 i).2 j).2⟩⟩⟩
  have hne : 1000000 + i ≠ a := by
    intro e
    rw [← e, (hf.2.2.2 i).1] at ha
    unfold kp_sK at ha
    repeat' split at ha
    all_goals simp at ha
  rw [← ((hf.2.2.2 i).2 j).1]
  exact ka_uN _ _ _ _ hne j
theorem kf_sJ {g : Nat × (Nat → Int32)} {h : ka_H} (hf : kf g h) {a k : Nat} {v : Int64} : kf g (ka_sJ h a k v) := hf
theorem kf_sF {g : Nat × (Nat → Int32)} {h : ka_H} (hf : kf g h) {a : Nat} {f : Nat → Int32} (ha : (ka_K h a).1 = 30) : kf g (ka_sF h a f) := by
  refine ⟨hf.1, hf.2.1, hf.2.2.1, fun i => ⟨(hf.2.2.2 i).1, fun j => ⟨?_, ((hf.2.2.2 i).2 j).2⟩⟩⟩
  have hne : 1000000 + i ≠ a := by
    intro e
    rw [← e, (hf.2.2.2 i).1] at ha
    unfold kp_sK at ha
    repeat' split at ha
    all_goals simp at ha
  rw [← ((hf.2.2.2 i).2 j).1]
  show (if 1000000 + i = a then f else h.2.2.2.1 (1000000 + i)) j = _
  rw [if_neg hne]
theorem kf_sP {g : Nat × (Nat → Int32)} {h : ka_H} (hf : kf g h) {a k v : Nat} (ha : (ka_K h a).1 < 38 ∧ (ka_K h a).1 ≠ 20 ∧ (ka_K h a).1 ≠ 21 ∧ (ka_K h a).1 ≠ 33) (hw : Nat.blt a 103 = true → Nat.beq (pt a k) 0 = true) : kf g (ka_sP h a k v) := by
  refine ⟨hf.1, hf.2.1, fun b f hb hc => ?_, fun i => ⟨(hf.2.2.2 i).1, fun j => ⟨((hf.2.2.2 i).2 j).1, ?_⟩⟩⟩
  · rw [← hf.2.2.1 b f hb hc]
    by_cases e : b = a
    · subst e
      by_cases e2 : f = k
      · subst e2
        rw [hw hb] at hc
        cases hc
      · exact ka_uJ _ _ _ _ _ e2
    · exact ka_uN _ _ _ _ e f
  · have hne : 1000000 + i ≠ a := by
      intro e
      rw [← e, (hf.2.2.2 i).1] at ha
      unfold kp_sK at ha
      repeat' split at ha
      all_goals simp at ha
    rw [← ((hf.2.2.2 i).2 j).2]
    exact ka_uN _ _ _ _ hne j
theorem kf_new {g : Nat × (Nat → Int32)} {h : ka_H} (hf : kf g h) {kd sz sl : Nat} (hn : h.1 < 1000000) : kf g (ka_new h kd sz sl) := by
  have h1 : ∀ a, Nat.blt a 103 = true → a ≠ h.1 := fun a ha e => by
    have : a < 103 := Nat.lt_of_succ_le (Nat.le_of_ble_eq_true ha)
    have := hf.1
    omega
  refine ⟨Nat.le_trans hf.1 (Nat.le_succ _), fun a ha => ?_, fun a f ha hc => ?_, fun i => ?_⟩
  · rw [← hf.2.1 a ha]
    exact if_neg (h1 a ha)
  · rw [← hf.2.2.1 a f ha hc]
    show (if a = h.1 then (fun _ => 0) else h.2.2.2.2.1 a) f = _
    rw [if_neg (h1 a ha)]
  · have hne : 1000000 + i ≠ h.1 := by omega
    refine ⟨by rw [← (hf.2.2.2 i).1]; exact if_neg hne, fun j => ⟨?_, ?_⟩⟩
    · rw [← ((hf.2.2.2 i).2 j).1]
      show (if 1000000 + i = h.1 then (fun _ => 0) else h.2.2.2.1 (1000000 + i)) j = _
      rw [if_neg hne]
    · rw [← ((hf.2.2.2 i).2 j).2]
      show (if 1000000 + i = h.1 then (fun _ => 0) else h.2.2.2.2.1 (1000000 + i)) j = _
      rw [if_neg hne]
/-- calls, with the fixed part kept -/
def kq_call (g : Nat × (Nat → Int32)) (call : Nat → List Value → ka_H → ka_R → ka_H → Prop) (hs : List (Nat × Nat × Nat × Nat × Nat × Nat)) (pc len m na : Nat) (L S : List Value) (h : ka_H) (k : ka_C) (R : ka_R → ka_H → Prop) : Prop :=
  cond (ka_okn na S) (∃ (r : ka_R) (h' : ka_H), call m ((S.take na).reverse) h r h' ∧ kf g h' ∧ ka_aft hs pc len L (S.drop na) k R r h') False
def kq_calln (g : Nat × (Nat → Int32)) (call : Nat → List Value → ka_H → ka_R → ka_H → Prop) (pc len m na : Nat) (L S : List Value) (h : ka_H) (k : ka_C) : Prop :=
  cond (ka_okn na S) (∃ (v : Option Value) (h' : ka_H), call m ((S.take na).reverse) h (.inl v) h' ∧ kf g h' ∧ (match v with | none => k (pc + len) L (S.drop na) h' | some w => k (pc + len) L (w :: S.drop na) h')) False
def kq_inv (g : Nat × (Nat → Int32)) (call : Nat → List Value → ka_H → ka_R → ka_H → Prop) (hs : List (Nat × Nat × Nat × Nat × Nat × Nat)) (pc len : Nat) (q : List Nat) (L S : List Value) (h : ka_H) (k : ka_C) (R : ka_R → ka_H → Prop) : Prop :=
  match q with
  | [6, m, na, ci] => (match ka_nth S na with
    | .ref a => kq_o h a ci (kq_call g call hs pc len m (na + 1) L S h k R)
    | _ => False)
  | [7, m, na] => kq_call g call hs pc len m na L S h k R
  | [8, m, na] => (match ka_nth S na with
    | .ref a => ¬ a = 0 ∧ kq_calln g call pc len m (na + 1) L S h k
    | _ => False)
  | [22, m, na, ci] => (match ka_nth S na with
    | .ref a => kq_o h a ci (kq_calln g call pc len m (na + 1) L S h k)
    | _ => False)
  | [23, m, na] => kq_calln g call pc len m na L S h k
  | [9] => (match S with
    | .ref a :: S' => cond (ka_okc 8 S') (¬ a = 0 ∧ k (pc + len) L S' h) False
    | _ => False)
  | [16] => (match S with
    | .int n :: .int dp :: .ref d :: .int sp :: .ref s :: S' => cond (ka_okc 8 S') (kq_o h s 30 (kq_o h d 30 ((0 ≤ sp.toInt ∧ 0 ≤ dp.toInt ∧ 0 ≤ n.toInt ∧ sp.toInt + n.toInt ≤ kq_z h s ∧ dp.toInt + n.toInt ≤ kq_z h d) ∧
        k (pc + len) L S' (ka_sF h d (ka_cpy (ka_I h s) (ka_I h d) sp.toNatClampNeg dp.toNatClampNeg n.toNatClampNeg))))) False
    | _ => False)
  | [17] => (match S with
    | .ref a :: S' => cond (ka_okc 8 S') (kq_o h a 30 ((kq_z h a ≤ 100000 ∧ ka_n h < 1000000) ∧ k (pc + len) L (.ref (ka_n h) :: S') (ka_sF (ka_new h 30 (kq_z h a) (kq_z h a)) (ka_n h) (ka_I h a)))) False
    | _ => False)
  | _ => False
/-- one instruction, the fixed part known -/
def kq_step (g : Nat × (Nat → Int32)) (lk : Nat → List Nat) (call : Nat → List Value → ka_H → ka_R → ka_H → Prop) (hs : List (Nat × Nat × Nat × Nat × Nat × Nat)) (rt : Nat) (i : Instr) (pc len : Nat) (ts : List Nat) (L S : List Value) (h : ka_H) (k : ka_C) (R : ka_R → ka_H → Prop) : Prop :=
  match i with
  | .getfield x => (match lk x, S with
    | [1, ci, f], .ref a :: S' => kq_o h a ci (k (pc + len) L (.int (ka_I h a f) :: S') h)
    | [2, ci, f], .ref a :: S' => kq_o h a ci (k (pc + len) L (.ref (kq_p h a f) :: S') h)
    | [3, ci, f], .ref a :: S' => kq_o h a ci (k (pc + len) L (.int (ka_I h a f) :: S') h)
    | _, _ => False)
  | .putfield x => (match lk x, S with
    | [1, ci, f], .int w :: .ref a :: S' => kq_o h a ci (cond (Nat.blt ci 10) (k (pc + len) L S' (ka_sI h a f w)) False)
    | [3, ci, f], .int w :: .ref a :: S' => kq_o h a ci (cond (Nat.blt ci 10) ((w = 0 ∨ w = 1) ∧ k (pc + len) L S' (ka_sI h a f w)) False)
    | [2, ci, f], .ref w :: .ref a :: S' => kq_o h a ci (cond (Nat.blt ci 10) (kq_w a f (k (pc + len) L S' (ka_sP h a f w))) False)
    | _, _ => False)
  | .iaload => (match S with | .int j :: .ref a :: S' => cond (Nat.blt a 103) (kq_o h a 30 (vp_in j (kq_z h a) ∧ k (pc + len) L (.int (ka_I h a j.toNatClampNeg) :: S') h)) ((((ka_K h a).1 = 30 ∨ (ka_K h a).1 = 40) ∧ vp_in j (ka_K h a).2) ∧ k (pc + len) L (.int (ka_I h a j.toNatClampNeg) :: S') h) | _ => False)
  | .iastore => (match S with | .int w :: .int j :: .ref a :: S' => kq_o h a 30 (vp_in j (kq_z h a) ∧ k (pc + len) L S' (ka_sI h a j.toNatClampNeg w)) | _ => False)
  | .baload => (match S with | .int j :: .ref a :: S' => cond (Nat.blt a 103) (kq_o h a 31 (vp_in j (kq_z h a) ∧ k (pc + len) L (.int (ka_I h a j.toNatClampNeg) :: S') h)) ((((ka_K h a).1 = 31 ∨ (ka_K h a).1 = 33) ∧ vp_in j (ka_K h a).2) ∧ k (pc + len) L (.int (ka_I h a j.toNatClampNeg) :: S') h) | _ => False)
  | .bastore => (match S with | .int w :: .int j :: .ref a :: S' => kq_o h a 31 ((vp_in j (kq_z h a) ∧ (w = 0 ∨ w = 1)) ∧ k (pc + len) L S' (ka_sI h a j.toNatClampNeg w)) | _ => False)
  | .laload => (match S with | .int j :: .ref a :: S' => kq_o h a 32 (vp_in j (kq_z h a) ∧ k (pc + len) L (.long (ka_J h a j.toNatClampNeg) :: S') h) | _ => False)
  | .lastore => (match S with | .long w :: .int j :: .ref a :: S' => kq_o h a 32 (vp_in j (kq_z h a) ∧ k (pc + len) L S' (ka_sJ h a j.toNatClampNeg w)) | _ => False)
  | .aaload => (match S with | .int j :: .ref a :: S' => cond (Nat.blt a 103) (cond (Nat.ble 34 (kt a).1 && Nat.ble (kt a).1 38) (vp_in j (kq_z h a) ∧ k (pc + len) L (.ref (ka_P h a j.toNatClampNeg) :: S') h) False) ((34 ≤ (ka_K h a).1 ∧ (ka_K h a).1 ≤ 38 ∧ vp_in j (ka_K h a).2) ∧ k (pc + len) L (.ref (ka_P h a j.toNatClampNeg) :: S') h) | _ => False)
  | .aastore => (match S with | .ref w :: .int j :: .ref a :: S' => (((ka_K h a).1 = 34 ∧ (ka_K h w).1 = 5 ∨ (ka_K h a).1 = 35 ∧ (ka_K h w).1 = 4 ∨ (ka_K h a).1 = 36 ∧ (ka_K h w).1 = 3) ∧ vp_in j (ka_K h a).2) ∧ (Nat.blt a 103 = true → Nat.beq (pt a j.toNatClampNeg) 0 = true) ∧ k (pc + len) L S' (ka_sP h a j.toNatClampNeg w) | _ => False)
  | .arraylength => (match S with | .ref a :: S' => cond (Nat.blt a 103) (cond (Nat.ble 30 (kt a).1 && Nat.ble (kt a).1 40) (k (pc + len) L (.int (Int32.ofNat (kt a).2) :: S') h) False) ((30 ≤ (ka_K h a).1 ∧ (ka_K h a).1 ≤ 40) ∧ k (pc + len) L (.int (Int32.ofNat (ka_K h a).2) :: S') h) | _ => False)
  | .new x => (match lk x with
    | [4, ci, sz] => ka_n h < 1000000 ∧ k (pc + len) L (.ref (ka_n h) :: S) (ka_new h ci sz sz)
    | [5, e] => cond (ka_okc 8 S) (ka_n h < 1000000 ∧ R (.inr (e, ka_n h)) (ka_new h (50 + e) 6 6)) False
    | _ => False)
  | .newarray t => (match S with | .int n :: S' => (¬ n < 0 ∧ n.toNatClampNeg ≤ 100000 ∧ ka_n h < 1000000) ∧ k (pc + len) L (.ref (ka_n h) :: S') (ka_new h (ka_at t) n.toNatClampNeg n.toNatClampNeg) | _ => False)
  | .anewarray x => (match lk x, S with | [4, ci, _], .int n :: S' => (3 ≤ ci ∧ ci ≤ 5 ∧ ¬ n < 0 ∧ n.toNatClampNeg ≤ 100000 ∧ ka_n h < 1000000) ∧ k (pc + len) L (.ref (ka_n h) :: S') (ka_new h (39 - ci) n.toNatClampNeg n.toNatClampNeg) | _, _ => False)
  | .multianewarray _ _ => False
  | .invokevirtual x => kq_inv g call hs pc len (lk x) L S h k R
  | .invokestatic x => kq_inv g call hs pc len (lk x) L S h k R
  | .invokespecial x => kq_inv g call hs pc len (lk x) L S h k R
  | .checkcast x => (match lk x, S with | [18], .ref a :: S' => kq_o h a 30 (k (pc + len) L (.ref a :: S') h) | _, _ => False)
  | i => ka_step lk call hs rt i pc len ts L S h k R
theorem kq_aft {g : Nat × (Nat → Int32)} {hs : List (Nat × Nat × Nat × Nat × Nat × Nat)} {pc len : Nat} {L rest : List Value} {k : ka_C} {R : ka_R → ka_H → Prop} {r : ka_R} {h : ka_H} (hf : kf g h) (q : ka_aft hs pc len L rest k R r h) : ka_aft hs pc len L rest (fun pc L S h => kf g h ∧ k pc L S h) R r h := by
  unfold ka_aft at q ⊢
  split at q
  · exact ⟨hf, q⟩
  · exact ⟨hf, q⟩
  · rename_i e a
    obtain ⟨hb, q⟩ := ka_cond q
    rw [hb]
    show (match ka_fh hs pc e with | some (lc, t) => kf g h ∧ k t (ka_set L lc (.retAddr 0)) [] h | none => R (.inr (e, a)) h)
    split at q
    · rename_i heq
      rw [heq]
      exact ⟨hf, q⟩
    · rename_i heq
      rw [heq]
      exact q
section KQ
variable {g : Nat × (Nat → Int32)} {lk : Nat → List Nat} {call : Nat → List Value → ka_H → ka_R → ka_H → Prop} {hs : List (Nat × Nat × Nat × Nat × Nat × Nat)} {rt : Nat} {k : ka_C} {R : ka_R → ka_H → Prop} {h : ka_H} {L S : List Value} {pc len : Nat}
theorem kq_call_s {m na : Nat} (q : kq_call g call hs pc len m na L S h k R) : ka_call call hs pc len m na L S h (fun pc L S h => kf g h ∧ k pc L S h) R := by
  obtain ⟨hok, r, h', hc, hf, ha⟩ := ka_cond q
  unfold ka_call
  rw [hok]
  exact ⟨r, h', hc, kq_aft hf ha⟩
theorem kq_calln_s {m na : Nat} (q : kq_calln g call pc len m na L S h k) : ka_calln call pc len m na L S h (fun pc L S h => kf g h ∧ k pc L S h) := by
  obtain ⟨hok, v, h', hc, hf, ha⟩ := ka_cond q
  unfold ka_calln
  rw [hok]
  cases v with
  | none => exact ⟨none, h', hc, hf, ha⟩
  | some w => exact ⟨some w, h', hc, hf, ha⟩
theorem kq_inv_s {q : List Nat} (hf : kf g h) (hst : kq_inv g call hs pc len q L S h k R) : ka_inv call hs pc len q L S h (fun pc L S h => kf g h ∧ k pc L S h) R := by
  unfold kq_inv at hst
  split at hst
  · split at hst
    · rename_i heq
      obtain ⟨h1, h2⟩ := kq_o_s hf hst
      simp only [ka_inv, heq]
      exact ⟨h1, kq_call_s h2⟩
    · exact hst.elim
  · exact kq_call_s hst
  · split at hst
    · rename_i heq
      simp only [ka_inv, heq]
      exact ⟨hst.1, kq_calln_s hst.2⟩
    · exact hst.elim
  · split at hst
    · rename_i heq
      obtain ⟨h1, h2⟩ := kq_o_s hf hst
      simp only [ka_inv, heq]
      exact ⟨h1, kq_calln_s h2⟩
    · exact hst.elim
  · exact kq_calln_s hst
  · split at hst
    · obtain ⟨h1, h2, h3⟩ := ka_cond hst
      simp only [ka_inv, h1, cond_true]
      exact ⟨h2, hf, h3⟩
    · exact hst.elim
  · split at hst
    · obtain ⟨h1, h2⟩ := ka_cond hst
      obtain ⟨h3, h4⟩ := kq_o_s hf h2
      obtain ⟨h5, h6, h7⟩ := kq_o_s hf h4
      rw [kq_z_s hf, kq_z_s hf] at h6
      simp only [ka_inv, h1, cond_true]
      exact ⟨⟨⟨h3, h5⟩, h6⟩, kf_sF hf h5, h7⟩
    · exact hst.elim
  · split at hst
    · obtain ⟨h1, h2⟩ := ka_cond hst
      obtain ⟨h3, h4, h5⟩ := kq_o_s hf h2
      rw [kq_z_s hf] at h4 h5
      simp only [ka_inv, h1, cond_true]
      exact ⟨⟨⟨h3, h4.1⟩, h4.2⟩, kf_sF (kf_new hf h4.2) (by show (if h.1 = h.1 then _ else _ : Nat × Nat).1 = 30; rw [if_pos rfl]), h5⟩
    · exact hst.elim
  · exact hst.elim
theorem kq_br {c : ClassFile.Cond} {a b : Int32} {p x y : Prop} (hp : p) (h : ka_br c a b x y) : ka_br c a b (p ∧ x) (p ∧ y) := by
  cases c <;> exact ⟨fun z => ⟨hp, h.1 z⟩, fun z => ⟨hp, h.2 z⟩⟩
theorem kq_sw {a : Int32} {p : Prop} {kk : Nat → Prop} {d : Nat} (hp : p) : ∀ (ts : List Nat) (lo : Int32), ka_sw a kk d lo ts → ka_sw a (fun t => p ∧ kk t) d lo ts
  | [], _, h => ⟨hp, h⟩
  | _ :: ts, lo, h => ⟨fun e => ⟨hp, h.1 e⟩, fun e => kq_sw hp ts (lo + 1) (h.2 e)⟩
set_option maxHeartbeats 4000000 in
theorem kq_step_s {i : Instr} {ts : List Nat} (hf : kf g h) (hst : kq_step g lk call hs rt i pc len ts L S h k R) : ka_step lk call hs rt i pc len ts L S h (fun pc L S h => kf g h ∧ k pc L S h) R := by
  cases i
  case invokevirtual x => exact kq_inv_s hf hst
  case invokestatic x => exact kq_inv_s hf hst
  case invokespecial x => exact kq_inv_s hf hst
  case multianewarray x y => exact hst.elim
  case getfield x =>
    simp only [kq_step] at hst
    split at hst
    · rename_i heq
      simp only [ka_step, heq]
      obtain ⟨h1, h2⟩ := kq_o_s hf hst
      exact ⟨h1, hf, h2⟩
    · rename_i heq
      simp only [ka_step, heq]
      obtain ⟨h1, h2⟩ := kq_o_s hf hst
      rw [kq_p_s hf] at h2
      exact ⟨h1, hf, h2⟩
    · rename_i heq
      simp only [ka_step, heq]
      obtain ⟨h1, h2⟩ := kq_o_s hf hst
      exact ⟨h1, hf, h2⟩
    · exact hst.elim
  case putfield x =>
    simp only [kq_step] at hst
    split at hst
    · rename_i heq
      simp only [ka_step, heq]
      obtain ⟨h1, h2⟩ := kq_o_s hf hst
      obtain ⟨h3, h4⟩ := ka_cond h2
      have := Nat.lt_of_succ_le (Nat.le_of_ble_eq_true h3)
      exact ⟨h1, kf_sI hf (by omega), h4⟩
    · rename_i heq
      simp only [ka_step, heq]
      obtain ⟨h1, h2⟩ := kq_o_s hf hst
      obtain ⟨h3, h4, h5⟩ := ka_cond h2
      have := Nat.lt_of_succ_le (Nat.le_of_ble_eq_true h3)
      exact ⟨⟨h1, h4⟩, kf_sI hf (by omega), h5⟩
    · rename_i heq
      simp only [ka_step, heq]
      obtain ⟨h1, h2⟩ := kq_o_s hf hst
      obtain ⟨h3, h4⟩ := ka_cond h2
      obtain ⟨h5, h6⟩ := kq_w_s h4
      have := Nat.lt_of_succ_le (Nat.le_of_ble_eq_true h3)
      exact ⟨h1, kf_sP hf (by omega) h5, h6⟩
    · exact hst.elim
  case iaload =>
    simp only [kq_step] at hst
    split at hst
    · rename_i j a S'
      cases hb : Nat.blt a 103 with
      | true =>
        rw [hb] at hst
        obtain ⟨h1, h2, h3⟩ := kq_o_s hf hst
        rw [kq_z_s hf] at h2
        exact ⟨⟨Or.inl h1, h2⟩, hf, h3⟩
      | false =>
        rw [hb] at hst
        exact ⟨hst.1, hf, hst.2⟩
    · exact hst.elim
  case baload =>
    simp only [kq_step] at hst
    split at hst
    · rename_i j a S'
      cases hb : Nat.blt a 103 with
      | true =>
        rw [hb] at hst
        obtain ⟨h1, h2, h3⟩ := kq_o_s hf hst
        rw [kq_z_s hf] at h2
        exact ⟨⟨Or.inl h1, h2⟩, hf, h3⟩
      | false =>
        rw [hb] at hst
        exact ⟨hst.1, hf, hst.2⟩
    · exact hst.elim
  case iastore =>
    simp only [kq_step] at hst
    split at hst
    · obtain ⟨h1, h2, h3⟩ := kq_o_s hf hst
      rw [kq_z_s hf] at h2
      exact ⟨⟨h1, h2⟩, kf_sI hf (by omega), h3⟩
    · exact hst.elim
  case bastore =>
    simp only [kq_step] at hst
    split at hst
    · obtain ⟨h1, ⟨h2, h4⟩, h3⟩ := kq_o_s hf hst
      rw [kq_z_s hf] at h2
      exact ⟨⟨h1, h2, h4⟩, kf_sI hf (by omega), h3⟩
    · exact hst.elim
  case laload =>
    simp only [kq_step] at hst
    split at hst
    · obtain ⟨h1, h2, h3⟩ := kq_o_s hf hst
      rw [kq_z_s hf] at h2
      exact ⟨⟨h1, h2⟩, hf, h3⟩
    · exact hst.elim
  case lastore =>
    simp only [kq_step] at hst
    split at hst
    · obtain ⟨h1, h2, h3⟩ := kq_o_s hf hst
      rw [kq_z_s hf] at h2
      exact ⟨⟨h1, h2⟩, kf_sJ hf, h3⟩
    · exact hst.elim
  case aaload =>
    simp only [kq_step] at hst
    split at hst
    · rename_i j a S'
      cases hb : Nat.blt a 103 with
      | true =>
        rw [hb] at hst
        obtain ⟨h1, h2, h3⟩ := ka_cond hst
        simp only [Bool.and_eq_true] at h1
        rw [kq_z_s hf] at h2
        rw [← hf.2.1 a hb] at h1
        exact ⟨⟨Nat.le_of_ble_eq_true h1.1, Nat.le_of_ble_eq_true h1.2, h2⟩, hf, h3⟩
      | false =>
        rw [hb] at hst
        exact ⟨hst.1, hf, hst.2⟩
    · exact hst.elim
  case aastore =>
    simp only [kq_step] at hst
    split at hst
    · obtain ⟨h1, h2, h3⟩ := hst
      exact ⟨h1, kf_sP hf (by omega) h2, h3⟩
    · exact hst.elim
  case arraylength =>
    simp only [kq_step] at hst
    split at hst
    · rename_i a S'
      cases hb : Nat.blt a 103 with
      | true =>
        rw [hb] at hst
        obtain ⟨h1, h3⟩ := ka_cond hst
        simp only [Bool.and_eq_true] at h1
        rw [← hf.2.1 a hb] at h1 h3
        exact ⟨⟨Nat.le_of_ble_eq_true h1.1, Nat.le_of_ble_eq_true h1.2⟩, hf, h3⟩
      | false =>
        rw [hb] at hst
        exact ⟨hst.1, hf, hst.2⟩
    · exact hst.elim
  case new x =>
    simp only [kq_step] at hst
    split at hst
    · rename_i heq
      simp only [ka_step, heq]
      exact ⟨hst.1, kf_new hf hst.1, hst.2⟩
    · rename_i heq
      simp only [ka_step, heq]
      exact hst
    · exact hst.elim
  case newarray t =>
    simp only [kq_step] at hst
    split at hst
    · exact ⟨hst.1, kf_new hf hst.1.2.2, hst.2⟩
    · exact hst.elim
  case anewarray x =>
    simp only [kq_step] at hst
    split at hst
    · rename_i heq
      simp only [ka_step, heq]
      exact ⟨hst.1, kf_new hf hst.1.2.2.2.2, hst.2⟩
    · exact hst.elim
  case checkcast x =>
    simp only [kq_step] at hst
    split at hst
    · rename_i heq
      simp only [ka_step, heq]
      obtain ⟨h1, h2⟩ := kq_o_s hf hst
      exact ⟨h1, hf, h2⟩
    · exact hst.elim
  case ifCond c o =>
    simp only [kq_step, ka_step] at hst ⊢
    split at hst
    · exact kq_br hf hst
    · exact hst.elim
  case if_icmp c o =>
    simp only [kq_step, ka_step] at hst ⊢
    split at hst
    · exact kq_br hf hst
    · exact hst.elim
  case if_acmp c o =>
    simp only [kq_step, ka_step] at hst ⊢
    split at hst
    · cases c <;> exact ⟨hst.1, fun z => ⟨hf, hst.2.1 z⟩, fun z => ⟨hf, hst.2.2 z⟩⟩
    · exact hst.elim
  case ifnull o =>
    simp only [kq_step, ka_step] at hst ⊢
    split at hst
    · exact ⟨fun z => ⟨hf, hst.1 z⟩, fun z => ⟨hf, hst.2 z⟩⟩
    · exact hst.elim
  case ifnonnull o =>
    simp only [kq_step, ka_step] at hst ⊢
    split at hst
    · exact ⟨fun z => ⟨hf, hst.1 z⟩, fun z => ⟨hf, hst.2 z⟩⟩
    · exact hst.elim
  case tableswitch a b c e =>
    simp only [kq_step, ka_step] at hst ⊢
    split at hst
    · exact kq_sw hf _ _ hst
    · exact hst.elim
  case ireturn => exact hst
  case areturn => exact hst
  case return_ => exact hst
  all_goals simp only [kq_step, ka_step] at hst ⊢
  all_goals try (exact hst.elim)
  all_goals try (exact ⟨hf, hst⟩)
  all_goals split at hst
  all_goals first
    | exact hst.elim
    | exact ⟨hf, hst⟩
    | exact ⟨hst.1, hf, hst.2⟩
    | (rename_i heq; simp only [heq]; exact ⟨hf, hst⟩)
    | (rename_i heq; simp only [heq]; exact ⟨hst.1, hf, hst.2⟩)
    | skip
def kq_wp (g : Nat × (Nat → Int32)) (lk : Nat → List Nat) (call : Nat → List Value → ka_H → ka_R → ka_H → Prop) (hs : List (Nat × Nat × Nat × Nat × Nat × Nat)) (rt : Nat) (cd : Nat → Option (Instr × Nat × List Nat)) (stop : Nat → Bool) (K : ka_C) (R : ka_R → ka_H → Prop) : Nat → ka_C
  | 0 => K
  | n + 1 => fun pc L S h => match cd pc with
    | none => False
    | some (i, len, ts) => kq_step g lk call hs rt i pc len ts L S h (fun pc' L' S' h' => match stop pc' with | true => K pc' L' S' h' | false => kq_wp g lk call hs rt cd stop K R n pc' L' S' h') R
end KQ
/-- from here, the fixed part being as it is, the method ends as R has it -/
def kq_ex (g : Nat × (Nat → Int32)) (d m : Nat) (R : ka_R → ka_H → Prop) : ka_C := fun pc L S h => kf g h → kp_ex d m R pc L S h
theorem kq_seg {g : Nat × (Nat → Int32)} {d m : Nat} {R : ka_R → ka_H → Prop} (stop : Nat → Bool) : ∀ (n : Nat) {pc : Nat} {L S : List Value} {h : ka_H}, kq_wp g (ka_lk (ka_own m)) (ka_run d) (ka_hs m) (ka_rt m) (ka_cd m) stop (kq_ex g d m R) R n pc L S h → kq_ex g d m R pc L S h
  | 0, _, _, _, _, hw => hw
  | n + 1, pc, L, S, h, hw => by
    intro hf
    unfold kq_wp at hw
    split at hw
    · exact hw.elim
    · rename_i i len ts hcd
      rcases kp_step_nx (kq_step_s hf hw) with ⟨pc', L', S', h', ⟨hf', hk⟩, back⟩ | ⟨r, h', hR, back⟩
      · refine kp_go hcd (back _ _ _ (fun _ _ _ _ _ z => z) ?_)
        cases hs : stop pc' with
        | true => rw [hs] at hk; exact hk hf'
        | false => rw [hs] at hk; exact kq_seg stop n hk hf'
      · exact kp_go hcd (back _ _ _ (fun _ _ _ _ _ z => z) hR)
/-- a method's contract out of its walk -/
theorem kq_in {g : Nat × (Nat → Int32)} {d m : Nat} {as L : List Value} {h : ka_H} {Q : ka_R → ka_H → Prop} (hf : kf g h) (h1 : ka_okc 30 as = true) (h2 : Nat.ble as.length (ka_mx m) = true) (hL : as ++ List.replicate (ka_mx m - as.length) (.retAddr 0) = L) (k : kq_ex g d m Q 0 L [] h) : kp_T (d + 1) m as h Q := kp_in h1 (Nat.le_of_ble_eq_true h2) hL (k hf)
/-- a call in a walk, by its contract, which keeps the fixed part -/
theorem kq_cl {g : Nat × (Nat → Int32)} {d m' : Nat} {as : List Value} {h : ka_H} {Q P : ka_R → ka_H → Prop} (hT : kp_T d m' as h Q) (hf : ∀ r h', Q r h' → kf g h') (hk : ∀ r h', Q r h' → P r h') : ∃ (r : ka_R) (h' : ka_H), ka_run d m' as h r h' ∧ kf g h' ∧ P r h' := by
  obtain ⟨r, h', h1, h2⟩ := hT
  exact ⟨r, h', h1, hf r h' h2, hk r h' h2⟩
