/-! THE FRESH STORE: the world behind both constructors -/
def FX11 (cI cZ : ClassId) (h : Nat) (qs : List Nat) : va_W := [(h, .inr (10, [.ref (qs.getD 0 0), .ref (qs.getD 2 0), .ref (qs.getD 20 0), .int 0, .ref (qs.getD 38 0), .ref (qs.getD 45 0), .ref (qs.getD 51 0), .ref (qs.getD 55 0), .ref (qs.getD 58 0), .ref (qs.getD 68 0)])), ((qs.getD 0 0), .inr (8, [.ref (qs.getD 1 0), .int 0])), ((qs.getD 1 0), .inl (cI, 400, .inl nI0)), ((qs.getD 2 0), .inr (2, [.int (fL 0 0), .int (fL 0 1), .int (fL 0 2), .int (fL 0 3), .ref (qs.getD 3 0), .ref (qs.getD 4 0), .ref (qs.getD 9 0), .ref (qs.getD 10 0), .ref (qs.getD 11 0), .int (fL 0 9), .ref (qs.getD 12 0), .int (fL 0 11), .ref (qs.getD 13 0), .ref (qs.getD 14 0), .ref (qs.getD 15 0), .ref (qs.getD 16 0)])), ((qs.getD 3 0), .inl (cI, 7, .inl (aL 1))), ((qs.getD 4 0), .inr (5, [.int (fL 2 0), .ref (qs.getD 5 0), .ref (qs.getD 6 0), .ref (qs.getD 7 0), .ref (qs.getD 8 0)])), ((qs.getD 5 0), .inl (cI, 20, .inl (aL 3))), ((qs.getD 6 0), .inl (cI, 20, .inl (aL 4))), ((qs.getD 7 0), .inl (cI, 20, .inl (aL 5))), ((qs.getD 8 0), .inl (cI, 20, .inl (aL 6))), ((qs.getD 9 0), .inl (cI, 24, .inl (aL 7))), ((qs.getD 10 0), .inl (cI, 6, .inl (aL 8))), ((qs.getD 11 0), .inl (cI, 6, .inl (aL 9))), ((qs.getD 12 0), .inl (cI, 10, .inl (aL 10))), ((qs.getD 13 0), .inl (cI, 12, .inl (aL 11))), ((qs.getD 14 0), .inl (cI, 12, .inl (aL 12))), ((qs.getD 15 0), .inl (cI, 12, .inl (aL 13))), ((qs.getD 16 0), .inr (4, [.int (fL 14 0), .int (fL 14 1), .ref (qs.getD 17 0), .ref (qs.getD 18 0), .ref (qs.getD 19 0)])), ((qs.getD 17 0), .inl (cI, 16, .inl (aL 15))), ((qs.getD 18 0), .inl (cI, 16, .inl (aL 16))), ((qs.getD 19 0), .inl (cI, 400, .inl (aL 17))), ((qs.getD 20 0), .inr (2, [.int (fL 0 0), .int (fL 0 1), .int (fL 0 2), .int (fL 0 3), .ref (qs.getD 21 0), .ref (qs.getD 22 0), .ref (qs.getD 27 0), .ref (qs.getD 28 0), .ref (qs.getD 29 0), .int (fL 0 9), .ref (qs.getD 30 0), .int (fL 0 11), .ref (qs.getD 31 0), .ref (qs.getD 32 0), .ref (qs.getD 33 0), .ref (qs.getD 34 0)])), ((qs.getD 21 0), .inl (cI, 7, .inl (aL 1))), ((qs.getD 22 0), .inr (5, [.int (fL 2 0), .ref (qs.getD 23 0), .ref (qs.getD 24 0), .ref (qs.getD 25 0), .ref (qs.getD 26 0)])), ((qs.getD 23 0), .inl (cI, 20, .inl (aL 3))), ((qs.getD 24 0), .inl (cI, 20, .inl (aL 4))), ((qs.getD 25 0), .inl (cI, 20, .inl (aL 5))), ((qs.getD 26 0), .inl (cI, 20, .inl (aL 6))), ((qs.getD 27 0), .inl (cI, 24, .inl (aL 7))), ((qs.getD 28 0), .inl (cI, 6, .inl (aL 8))), ((qs.getD 29 0), .inl (cI, 6, .inl (aL 9))), ((qs.getD 30 0), .inl (cI, 10, .inl (aL 10))), ((qs.getD 31 0), .inl (cI, 12, .inl (aL 11))), ((qs.getD 32 0), .inl (cI, 12, .inl (aL 12))), ((qs.getD 33 0), .inl (cI, 12, .inl (aL 13))), ((qs.getD 34 0), .inr (4, [.int (fL 14 0), .int (fL 14 1), .ref (qs.getD 35 0), .ref (qs.getD 36 0), .ref (qs.getD 37 0)])), ((qs.getD 35 0), .inl (cI, 16, .inl (aL 15))), ((qs.getD 36 0), .inl (cI, 16, .inl (aL 16))), ((qs.getD 37 0), .inl (cI, 400, .inl (aL 17))), ((qs.getD 38 0), .inr (7, [.ref (qs.getD 39 0), .ref (qs.getD 40 0), .ref (qs.getD 41 0), .int 0, .int 0, .int (-1)])), ((qs.getD 39 0), .inl (cI, 401, .inl nI0)), ((qs.getD 40 0), .inl (cI, 401, .inl nI0)), ((qs.getD 41 0), .inr (4, [.int 0, .int 0, .ref (qs.getD 42 0), .ref (qs.getD 43 0), .ref (qs.getD 44 0)])), ((qs.getD 42 0), .inl (cI, 16, .inl nI0)), ((qs.getD 43 0), .inl (cI, 16, .inl nI0)), ((qs.getD 44 0), .inl (cI, 400, .inl nI0)), ((qs.getD 45 0), .inr (6, [.ref (qs.getD 46 0), .ref (qs.getD 47 0), .ref (qs.getD 48 0), .ref (qs.getD 49 0), .ref (qs.getD 50 0)])), ((qs.getD 46 0), .inl (cI, 26, .inl nI0)), ((qs.getD 47 0), .inl (cI, 20, .inl nI0)), ((qs.getD 48 0), .inl (cI, 20, .inl nI0)), ((qs.getD 49 0), .inl (cI, 20, .inl nI0)), ((qs.getD 50 0), .inl (cI, 20, .inl nI0)), ((qs.getD 51 0), .inr (1, [.ref (qs.getD 52 0), .ref (qs.getD 53 0), .ref (qs.getD 54 0)])), ((qs.getD 52 0), .inl (cI, 10, .inl nI0)), ((qs.getD 53 0), .inl (cI, 32, .inl nI0)), ((qs.getD 54 0), .inl (cI, 7, .inl nI0)), ((qs.getD 55 0), .inr (9, [.ref (qs.getD 56 0), .ref (qs.getD 57 0), .int (-1), .int 0, .int 0])), ((qs.getD 56 0), .inl (cI, 20, .inl nI0)), ((qs.getD 57 0), .inl (cI, 800, .inl nI0)), ((qs.getD 58 0), .inr (0, [.ref (qs.getD 59 0), .ref (qs.getD 60 0), .ref (qs.getD 61 0), .ref (qs.getD 62 0), .ref (qs.getD 63 0), .ref (qs.getD 64 0), .ref (qs.getD 65 0), .ref (qs.getD 66 0), .ref (qs.getD 67 0), .int (-1), .int (-1)])), ((qs.getD 59 0), .inl (cI, 64, .inl nI0)), ((qs.getD 60 0), .inl (cZ, 64, .inl nI0)), ((qs.getD 61 0), .inl (cI, 256, .inl nI0)), ((qs.getD 62 0), .inl (cI, 256, .inl nI0)), ((qs.getD 63 0), .inl (cI, 256, .inl nI0)), ((qs.getD 64 0), .inl (cI, 256, .inl nI0)), ((qs.getD 65 0), .inl (cI, 256, .inl nI0)), ((qs.getD 66 0), .inl (cI, 96, .inl nI0)), ((qs.getD 67 0), .inl (cI, 64, .inl nI0)), ((qs.getD 68 0), .inr (3, [.ref (qs.getD 69 0), .ref (qs.getD 70 0), .ref (qs.getD 71 0), .ref (qs.getD 72 0), .ref (qs.getD 73 0), .int (-1), .int 0])), ((qs.getD 69 0), .inl (cI, 20, .inl nI0)), ((qs.getD 70 0), .inl (cI, 20, .inl nI0)), ((qs.getD 71 0), .inl (cI, 8, .inl nI0)), ((qs.getD 72 0), .inl (cI, 20, .inl nI0)), ((qs.getD 73 0), .inl (cI, 20, .inl nI0))]
def FX12 (cI cZ : ClassId) (h : Nat) (qs : List Nat) : va_W := [(h, .inr (11, [.int 0, .int 0, .ref (qs.getD 0 0), .ref (qs.getD 1 0), .int 0, .ref (qs.getD 2 0), .ref (qs.getD 3 0), .ref (qs.getD 4 0), .int 0, .int 5, .ref (qs.getD 5 0), .ref (qs.getD 6 0), .ref (qs.getD 7 0), .ref (qs.getD 8 0), .ref (qs.getD 9 0), .ref (qs.getD 10 0), .ref (qs.getD 11 0), .ref (qs.getD 12 0), .int 0, .ref (qs.getD 13 0), .ref (qs.getD 14 0), .int 0, .int 0, .ref (qs.getD 15 0), .int 0, .int 0, .int 0, .int 0, .int 0, .ref (qs.getD 16 0), .int 0, .ref (qs.getD 17 0), .ref (qs.getD 18 0), .ref (qs.getD 19 0), .ref (qs.getD 20 0), .ref (qs.getD 21 0), .int 0, .int 0, .ref (qs.getD 22 0), .int 0, .int 0, .int 0, .int 0, .int (-1), .ref (qs.getD 23 0), .ref (qs.getD 24 0), .ref (qs.getD 25 0), .ref (qs.getD 26 0), .ref (qs.getD 27 0), .ref (qs.getD 28 0), .ref (qs.getD 29 0), .ref (qs.getD 30 0), .ref (qs.getD 31 0), .int 0, .int 0, .int 0, .ref (qs.getD 32 0), .ref (qs.getD 33 0), .int 0, .int 0, .ref (qs.getD 34 0), .ref (qs.getD 35 0), .ref (qs.getD 36 0), .ref (qs.getD 37 0), .ref (qs.getD 38 0), .ref (qs.getD 39 0), .ref (qs.getD 40 0), .ref (qs.getD 41 0), .int 0, .int 0, .int 0, .ref (qs.getD 42 0)])), ((qs.getD 0 0), .inl (cI, 51, .inl nI0)), ((qs.getD 1 0), .inl (cI, 306, .inl nI0)), ((qs.getD 2 0), .inl (cI, 20, .inl nI0)), ((qs.getD 3 0), .inl (cI, 20, .inl nI0)), ((qs.getD 4 0), .inl (cI, 20, .inl nI0)), ((qs.getD 5 0), .inl (cI, 168, .inl nI0)), ((qs.getD 6 0), .inl (cI, 7, .inl (nLs [0, 0, 1, 1, 1, 1, 0]))), ((qs.getD 7 0), .inl (cI, 6, .inl nI0)), ((qs.getD 8 0), .inl (cI, 6, .inl nI0)), ((qs.getD 9 0), .inl (cI, 6, .inl nI0)), ((qs.getD 10 0), .inl (cI, 6, .inl nI0)), ((qs.getD 11 0), .inl (cI, 6, .inl nI0)), ((qs.getD 12 0), .inl (cI, 6, .inl nI0)), ((qs.getD 13 0), .inl (cI, 12, .inl nI0)), ((qs.getD 14 0), .inl (cI, 12, .inl nI0)), ((qs.getD 15 0), .inl (cI, 400, .inl nI0)), ((qs.getD 16 0), .inl (cI, 81, .inl (nLs [32, 109, 97, 121, 32, 98, 97, 114, 32, 119, 104, 101, 110, 32, 111, 114, 32, 97, 110, 100, 32, 110, 111, 116, 32, 108, 101, 116, 116, 101, 114, 115, 32, 102, 105, 114, 115, 116, 32, 108, 97, 115, 116, 32, 108, 105, 107, 101, 32, 97, 98, 114, 111, 97, 100, 32, 116, 119, 105, 99, 101, 32, 97, 103, 101, 32, 99, 111, 105, 110, 32, 115, 101, 120, 32, 119, 111, 114, 116, 104, 32]))), ((qs.getD 17 0), .inl (cI, 32, .inl nI0)), ((qs.getD 18 0), .inl (cI, 32, .inl nI0)), ((qs.getD 19 0), .inl (cI, 32, .inl nI0)), ((qs.getD 20 0), .inl (cI, 800, .inl nI0)), ((qs.getD 21 0), .inl (cI, 800, .inl nI0)), ((qs.getD 22 0), .inl (cI, 40, .inl nI0)), ((qs.getD 23 0), .inl (cI, 10, .inl nI0)), ((qs.getD 24 0), .inl (cI, 420, .inl nI0)), ((qs.getD 25 0), .inl (cI, 8, .inl nI0)), ((qs.getD 26 0), .inl (cI, 20, .inl nI0)), ((qs.getD 27 0), .inl (cI, 20, .inl nI0)), ((qs.getD 28 0), .inl (cI, 7, .inl nI0)), ((qs.getD 29 0), .inl (cI, 7, .inl nI0)), ((qs.getD 30 0), .inl (cI, 6, .inl nI0)), ((qs.getD 31 0), .inl (cI, 820, .inl nI0)), ((qs.getD 32 0), .inl (cI, 20, .inl nI0)), ((qs.getD 33 0), .inl (cI, 20, .inl nI0)), ((qs.getD 34 0), .inl (cI, 64, .inl nI0)), ((qs.getD 35 0), .inl (cI, 8, .inl nI0)), ((qs.getD 36 0), .inl (cI, 256, .inl nI0)), ((qs.getD 37 0), .inl (cI, 8, .inl nI0)), ((qs.getD 38 0), .inl (cI, 20, .inl nI0)), ((qs.getD 39 0), .inl (cI, 20, .inl nI0)), ((qs.getD 40 0), .inl (cI, 20, .inl nI0)), ((qs.getD 41 0), .inl (cI, 20, .inl nI0)), ((qs.getD 42 0), .inl (cI, 1700, .inl nI0))]
def rowL (l : List Int) : Int → Int := fun i => if 0 ≤ i then l.getD i.toNat 0 else 0
def l_75 : List Int := [0, 0, 0, 0, 0, 0, 0, 0, 0, 5, 0, 0, 0, 0, 0, 0, 0, 0, 0, 0, 0, 0, 0, 0, 0, 0, 0, 0, 0, 0, 0, 0, 0, 0, 0, 0, 0, 0, 0, 0, 0, 0, 0, -1]
def l_82 : List Int := [0, 0, 1, 1, 1, 1, 0]
def l_92 : List Int := [32, 109, 97, 121, 32, 98, 97, 114, 32, 119, 104, 101, 110, 32, 111, 114, 32, 97, 110, 100, 32, 110, 111, 116, 32, 108, 101, 116, 116, 101, 114, 115, 32, 102, 105, 114, 115, 116, 32, 108, 97, 115, 116, 32, 108, 105, 107, 101, 32, 97, 98, 114, 111, 97, 100, 32, 116, 119, 105, 99, 101, 32, 97, 103, 101, 32, 99, 111, 105, 110, 32, 115, 101, 120, 32, 119, 111, 114, 116, 104, 32]
def l_39 : List Int := [0, 0, 0, 0, 0, -1]
def l_56 : List Int := [0, 0, -1]
def l_59 : List Int := [0, 0, 0, 0, 0, 0, 0, 0, 0, -1, -1]
def l_69 : List Int := [0, 0, 0, 0, 0, -1]
def S0 : Sto := fun c => if 3 ≤ c ∧ c < 21 then sL0 (c - 3) else if 21 ≤ c ∧ c < 39 then sL0 (c - 21) else if c = 75 then rowL l_75 else if c = 82 then rowL l_82 else if c = 92 then rowL l_92 else if c = 39 then rowL l_39 else if c = 56 then rowL l_56 else if c = 59 then rowL l_59 else if c = 69 then rowL l_69 else fun _ => 0
theorem s0_0 : S0 0 = fun _ => 0 := rfl
theorem s0_1 : S0 1 = fun _ => 0 := rfl
theorem s0_2 : S0 2 = fun _ => 0 := rfl
theorem s0_3 : S0 3 = sL0 0 := rfl
theorem s0_4 : S0 4 = sL0 1 := rfl
theorem s0_5 : S0 5 = sL0 2 := rfl
theorem s0_6 : S0 6 = sL0 3 := rfl
theorem s0_7 : S0 7 = sL0 4 := rfl
theorem s0_8 : S0 8 = sL0 5 := rfl
theorem s0_9 : S0 9 = sL0 6 := rfl
theorem s0_10 : S0 10 = sL0 7 := rfl
theorem s0_11 : S0 11 = sL0 8 := rfl
theorem s0_12 : S0 12 = sL0 9 := rfl
theorem s0_13 : S0 13 = sL0 10 := rfl
theorem s0_14 : S0 14 = sL0 11 := rfl
theorem s0_15 : S0 15 = sL0 12 := rfl
theorem s0_16 : S0 16 = sL0 13 := rfl
theorem s0_17 : S0 17 = sL0 14 := rfl
theorem s0_18 : S0 18 = sL0 15 := rfl
theorem s0_19 : S0 19 = sL0 16 := rfl
theorem s0_20 : S0 20 = sL0 17 := rfl
theorem s0_21 : S0 21 = sL0 0 := rfl
theorem s0_22 : S0 22 = sL0 1 := rfl
theorem s0_23 : S0 23 = sL0 2 := rfl
theorem s0_24 : S0 24 = sL0 3 := rfl
theorem s0_25 : S0 25 = sL0 4 := rfl
theorem s0_26 : S0 26 = sL0 5 := rfl
theorem s0_27 : S0 27 = sL0 6 := rfl
theorem s0_28 : S0 28 = sL0 7 := rfl
theorem s0_29 : S0 29 = sL0 8 := rfl
theorem s0_30 : S0 30 = sL0 9 := rfl
theorem s0_31 : S0 31 = sL0 10 := rfl
theorem s0_32 : S0 32 = sL0 11 := rfl
theorem s0_33 : S0 33 = sL0 12 := rfl
theorem s0_34 : S0 34 = sL0 13 := rfl
theorem s0_35 : S0 35 = sL0 14 := rfl
theorem s0_36 : S0 36 = sL0 15 := rfl
theorem s0_37 : S0 37 = sL0 16 := rfl
theorem s0_38 : S0 38 = sL0 17 := rfl
theorem s0_39 : S0 39 = rowL l_39 := rfl
theorem s0_40 : S0 40 = fun _ => 0 := rfl
theorem s0_41 : S0 41 = fun _ => 0 := rfl
theorem s0_42 : S0 42 = fun _ => 0 := rfl
theorem s0_43 : S0 43 = fun _ => 0 := rfl
theorem s0_44 : S0 44 = fun _ => 0 := rfl
theorem s0_45 : S0 45 = fun _ => 0 := rfl
theorem s0_46 : S0 46 = fun _ => 0 := rfl
theorem s0_47 : S0 47 = fun _ => 0 := rfl
theorem s0_48 : S0 48 = fun _ => 0 := rfl
theorem s0_49 : S0 49 = fun _ => 0 := rfl
theorem s0_50 : S0 50 = fun _ => 0 := rfl
theorem s0_51 : S0 51 = fun _ => 0 := rfl
theorem s0_52 : S0 52 = fun _ => 0 := rfl
theorem s0_53 : S0 53 = fun _ => 0 := rfl
theorem s0_54 : S0 54 = fun _ => 0 := rfl
theorem s0_55 : S0 55 = fun _ => 0 := rfl
theorem s0_56 : S0 56 = rowL l_56 := rfl
theorem s0_57 : S0 57 = fun _ => 0 := rfl
theorem s0_58 : S0 58 = fun _ => 0 := rfl
theorem s0_59 : S0 59 = rowL l_59 := rfl
theorem s0_60 : S0 60 = fun _ => 0 := rfl
theorem s0_61 : S0 61 = fun _ => 0 := rfl
theorem s0_62 : S0 62 = fun _ => 0 := rfl
theorem s0_63 : S0 63 = fun _ => 0 := rfl
theorem s0_64 : S0 64 = fun _ => 0 := rfl
theorem s0_65 : S0 65 = fun _ => 0 := rfl
theorem s0_66 : S0 66 = fun _ => 0 := rfl
theorem s0_67 : S0 67 = fun _ => 0 := rfl
theorem s0_68 : S0 68 = fun _ => 0 := rfl
theorem s0_69 : S0 69 = rowL l_69 := rfl
theorem s0_70 : S0 70 = fun _ => 0 := rfl
theorem s0_71 : S0 71 = fun _ => 0 := rfl
theorem s0_72 : S0 72 = fun _ => 0 := rfl
theorem s0_73 : S0 73 = fun _ => 0 := rfl
theorem s0_74 : S0 74 = fun _ => 0 := rfl
theorem s0_75 : S0 75 = rowL l_75 := rfl
theorem s0_76 : S0 76 = fun _ => 0 := rfl
theorem s0_77 : S0 77 = fun _ => 0 := rfl
theorem s0_78 : S0 78 = fun _ => 0 := rfl
theorem s0_79 : S0 79 = fun _ => 0 := rfl
theorem s0_80 : S0 80 = fun _ => 0 := rfl
theorem s0_81 : S0 81 = fun _ => 0 := rfl
theorem s0_82 : S0 82 = rowL l_82 := rfl
theorem s0_83 : S0 83 = fun _ => 0 := rfl
theorem s0_84 : S0 84 = fun _ => 0 := rfl
theorem s0_85 : S0 85 = fun _ => 0 := rfl
theorem s0_86 : S0 86 = fun _ => 0 := rfl
theorem s0_87 : S0 87 = fun _ => 0 := rfl
theorem s0_88 : S0 88 = fun _ => 0 := rfl
theorem s0_89 : S0 89 = fun _ => 0 := rfl
theorem s0_90 : S0 90 = fun _ => 0 := rfl
theorem s0_91 : S0 91 = fun _ => 0 := rfl
theorem s0_92 : S0 92 = rowL l_92 := rfl
theorem s0_93 : S0 93 = fun _ => 0 := rfl
theorem s0_94 : S0 94 = fun _ => 0 := rfl
theorem s0_95 : S0 95 = fun _ => 0 := rfl
theorem s0_96 : S0 96 = fun _ => 0 := rfl
theorem s0_97 : S0 97 = fun _ => 0 := rfl
theorem s0_98 : S0 98 = fun _ => 0 := rfl
theorem s0_99 : S0 99 = fun _ => 0 := rfl
theorem s0_100 : S0 100 = fun _ => 0 := rfl
theorem s0_101 : S0 101 = fun _ => 0 := rfl
theorem s0_102 : S0 102 = fun _ => 0 := rfl
theorem s0_103 : S0 103 = fun _ => 0 := rfl
theorem s0_104 : S0 104 = fun _ => 0 := rfl
theorem s0_105 : S0 105 = fun _ => 0 := rfl
theorem s0_106 : S0 106 = fun _ => 0 := rfl
theorem s0_107 : S0 107 = fun _ => 0 := rfl
theorem s0_108 : S0 108 = fun _ => 0 := rfl
theorem s0_109 : S0 109 = fun _ => 0 := rfl
theorem s0_110 : S0 110 = fun _ => 0 := rfl
theorem s0_111 : S0 111 = fun _ => 0 := rfl
theorem s0_112 : S0 112 = fun _ => 0 := rfl
theorem s0_113 : S0 113 = fun _ => 0 := rfl
theorem s0_114 : S0 114 = fun _ => 0 := rfl
theorem s0_115 : S0 115 = fun _ => 0 := rfl
theorem s0_116 : S0 116 = fun _ => 0 := rfl
theorem s0_117 : S0 117 = fun _ => 0 := rfl
theorem s0_118 : S0 118 = fun _ => 0 := rfl
theorem rowL_a (l : List Int) : (fun j : Nat => Int32.ofInt (rowL l (j : Int))) = nLs (l.map Int32.ofInt) := by
  funext j
  show Int32.ofInt (if 0 ≤ (j : Int) then l.getD (j : Int).toNat 0 else 0) = (l.map Int32.ofInt).getD j 0
  rw [if_pos (by omega), Int.toNat_natCast, List.getD_eq_getElem?_getD, List.getD_eq_getElem?_getD, List.getElem?_map]
  cases l[j]? <;> rfl
def wl (cI cZ : ClassId) (b : Nat → Nat) (s : Sto) : Nat → List Sh → va_W
  | _, [] => []
  | k, h :: t => (b k, wE cI cZ b s k h) :: wl cI cZ b s (k + 1) t
theorem wld_wl {ly : List Sh} {cI cZ : ClassId} {b : Nat → Nat} {s : Sto} : wld ly cI cZ b s = wl cI cZ b s 0 ly := by
  have h : ∀ (l : List Sh) (k : Nat), l.mapIdx (fun c h => (b (k + c), wE cI cZ b s (k + c) h)) = wl cI cZ b s k l := by
    intro l
    induction l with
    | nil => intro k; rfl
    | cons a t ih =>
      intro k
      rw [List.mapIdx_cons]
      show _ = (b k, wE cI cZ b s k a) :: wl cI cZ b s (k + 1) t
      rw [← ih (k + 1)]
      congr 1
      congr 1
      funext c h
      rw [show k + (c + 1) = k + 1 + c by omega]
  have h0 := h ly 0
  simp only [Nat.zero_add] at h0
  exact h0
def wf (b : Nat → Nat) (s : Sto) (c : Nat) : Nat → List (Option Nat) → List Value
  | _, [] => []
  | k, none :: t => .int (Int32.ofInt (s c k)) :: wf b s c (k + 1) t
  | k, some j :: t => .ref (b j) :: wf b s c (k + 1) t
theorem wE_wf {cI cZ : ClassId} {b : Nat → Nat} {s : Sto} {c ci : Nat} {fs : List (Option Nat)} : wE cI cZ b s c (.inr (ci, fs)) = .inr (ci, wf b s c 0 fs) := by
  have h : ∀ (l : List (Option Nat)) (k : Nat), l.mapIdx (fun i f => fV b s c (k + i) f) = wf b s c k l := by
    intro l
    induction l with
    | nil => intro k; rfl
    | cons a t ih =>
      intro k
      rw [List.mapIdx_cons]
      have e : (fun (i : Nat) (f : Option Nat) => fV b s c (k + (i + 1)) f) = fun i f => fV b s c (k + 1 + i) f := by
        funext i f
        rw [show k + (i + 1) = k + 1 + i by omega]
      rw [e, ih (k + 1)]
      cases a <;> rfl
  have h0 := h fs 0
  simp only [Nat.zero_add] at h0
  show Sum.inr (ci, _) = Sum.inr (ci, _)
  rw [← h0]
theorem wE_in {cI cZ : ClassId} {b : Nat → Nat} {s : Sto} {c N : Nat} : wE cI cZ b s c (.inl (N, false)) = .inl (cI, N, .inl (fun j => Int32.ofInt (s c j))) := rfl
theorem wE_bo {cI cZ : ClassId} {b : Nat → Nat} {s : Sto} {c N : Nat} : wE cI cZ b s c (.inl (N, true)) = .inl (cZ, N, .inl (fun j => Int32.ofInt (s c j))) := rfl
set_option maxRecDepth 100000 in
theorem wld_LY {cI cZ : ClassId} {b : Nat → Nat} {s : Sto} : wld LY cI cZ b s = [(b 0, .inr (10, [.ref (b 1), .ref (b 3), .ref (b 21), .int (Int32.ofInt (s 0 (3 : Nat))), .ref (b 39), .ref (b 46), .ref (b 52), .ref (b 56), .ref (b 59), .ref (b 69)])), (b 1, .inr (8, [.ref (b 2), .int (Int32.ofInt (s 1 (1 : Nat)))])), (b 2, .inl (cI, 400, .inl (fun j => Int32.ofInt (s 2 j)))), (b 3, .inr (2, [.int (Int32.ofInt (s 3 (0 : Nat))), .int (Int32.ofInt (s 3 (1 : Nat))), .int (Int32.ofInt (s 3 (2 : Nat))), .int (Int32.ofInt (s 3 (3 : Nat))), .ref (b 4), .ref (b 5), .ref (b 10), .ref (b 11), .ref (b 12), .int (Int32.ofInt (s 3 (9 : Nat))), .ref (b 13), .int (Int32.ofInt (s 3 (11 : Nat))), .ref (b 14), .ref (b 15), .ref (b 16), .ref (b 17)])), (b 4, .inl (cI, 7, .inl (fun j => Int32.ofInt (s 4 j)))), (b 5, .inr (5, [.int (Int32.ofInt (s 5 (0 : Nat))), .ref (b 6), .ref (b 7), .ref (b 8), .ref (b 9)])), (b 6, .inl (cI, 20, .inl (fun j => Int32.ofInt (s 6 j)))), (b 7, .inl (cI, 20, .inl (fun j => Int32.ofInt (s 7 j)))), (b 8, .inl (cI, 20, .inl (fun j => Int32.ofInt (s 8 j)))), (b 9, .inl (cI, 20, .inl (fun j => Int32.ofInt (s 9 j)))), (b 10, .inl (cI, 24, .inl (fun j => Int32.ofInt (s 10 j)))), (b 11, .inl (cI, 6, .inl (fun j => Int32.ofInt (s 11 j)))), (b 12, .inl (cI, 6, .inl (fun j => Int32.ofInt (s 12 j)))), (b 13, .inl (cI, 10, .inl (fun j => Int32.ofInt (s 13 j)))), (b 14, .inl (cI, 12, .inl (fun j => Int32.ofInt (s 14 j)))), (b 15, .inl (cI, 12, .inl (fun j => Int32.ofInt (s 15 j)))), (b 16, .inl (cI, 12, .inl (fun j => Int32.ofInt (s 16 j)))), (b 17, .inr (4, [.int (Int32.ofInt (s 17 (0 : Nat))), .int (Int32.ofInt (s 17 (1 : Nat))), .ref (b 18), .ref (b 19), .ref (b 20)])), (b 18, .inl (cI, 16, .inl (fun j => Int32.ofInt (s 18 j)))), (b 19, .inl (cI, 16, .inl (fun j => Int32.ofInt (s 19 j)))), (b 20, .inl (cI, 400, .inl (fun j => Int32.ofInt (s 20 j)))), (b 21, .inr (2, [.int (Int32.ofInt (s 21 (0 : Nat))), .int (Int32.ofInt (s 21 (1 : Nat))), .int (Int32.ofInt (s 21 (2 : Nat))), .int (Int32.ofInt (s 21 (3 : Nat))), .ref (b 22), .ref (b 23), .ref (b 28), .ref (b 29), .ref (b 30), .int (Int32.ofInt (s 21 (9 : Nat))), .ref (b 31), .int (Int32.ofInt (s 21 (11 : Nat))), .ref (b 32), .ref (b 33), .ref (b 34), .ref (b 35)])), (b 22, .inl (cI, 7, .inl (fun j => Int32.ofInt (s 22 j)))), (b 23, .inr (5, [.int (Int32.ofInt (s 23 (0 : Nat))), .ref (b 24), .ref (b 25), .ref (b 26), .ref (b 27)])), (b 24, .inl (cI, 20, .inl (fun j => Int32.ofInt (s 24 j)))), (b 25, .inl (cI, 20, .inl (fun j => Int32.ofInt (s 25 j)))), (b 26, .inl (cI, 20, .inl (fun j => Int32.ofInt (s 26 j)))), (b 27, .inl (cI, 20, .inl (fun j => Int32.ofInt (s 27 j)))), (b 28, .inl (cI, 24, .inl (fun j => Int32.ofInt (s 28 j)))), (b 29, .inl (cI, 6, .inl (fun j => Int32.ofInt (s 29 j)))), (b 30, .inl (cI, 6, .inl (fun j => Int32.ofInt (s 30 j)))), (b 31, .inl (cI, 10, .inl (fun j => Int32.ofInt (s 31 j)))), (b 32, .inl (cI, 12, .inl (fun j => Int32.ofInt (s 32 j)))), (b 33, .inl (cI, 12, .inl (fun j => Int32.ofInt (s 33 j)))), (b 34, .inl (cI, 12, .inl (fun j => Int32.ofInt (s 34 j)))), (b 35, .inr (4, [.int (Int32.ofInt (s 35 (0 : Nat))), .int (Int32.ofInt (s 35 (1 : Nat))), .ref (b 36), .ref (b 37), .ref (b 38)])), (b 36, .inl (cI, 16, .inl (fun j => Int32.ofInt (s 36 j)))), (b 37, .inl (cI, 16, .inl (fun j => Int32.ofInt (s 37 j)))), (b 38, .inl (cI, 400, .inl (fun j => Int32.ofInt (s 38 j)))), (b 39, .inr (7, [.ref (b 40), .ref (b 41), .ref (b 42), .int (Int32.ofInt (s 39 (3 : Nat))), .int (Int32.ofInt (s 39 (4 : Nat))), .int (Int32.ofInt (s 39 (5 : Nat)))])), (b 40, .inl (cI, 401, .inl (fun j => Int32.ofInt (s 40 j)))), (b 41, .inl (cI, 401, .inl (fun j => Int32.ofInt (s 41 j)))), (b 42, .inr (4, [.int (Int32.ofInt (s 42 (0 : Nat))), .int (Int32.ofInt (s 42 (1 : Nat))), .ref (b 43), .ref (b 44), .ref (b 45)])), (b 43, .inl (cI, 16, .inl (fun j => Int32.ofInt (s 43 j)))), (b 44, .inl (cI, 16, .inl (fun j => Int32.ofInt (s 44 j)))), (b 45, .inl (cI, 400, .inl (fun j => Int32.ofInt (s 45 j)))), (b 46, .inr (6, [.ref (b 47), .ref (b 48), .ref (b 49), .ref (b 50), .ref (b 51)])), (b 47, .inl (cI, 26, .inl (fun j => Int32.ofInt (s 47 j)))), (b 48, .inl (cI, 20, .inl (fun j => Int32.ofInt (s 48 j)))), (b 49, .inl (cI, 20, .inl (fun j => Int32.ofInt (s 49 j)))), (b 50, .inl (cI, 20, .inl (fun j => Int32.ofInt (s 50 j)))), (b 51, .inl (cI, 20, .inl (fun j => Int32.ofInt (s 51 j)))), (b 52, .inr (1, [.ref (b 53), .ref (b 54), .ref (b 55)])), (b 53, .inl (cI, 10, .inl (fun j => Int32.ofInt (s 53 j)))), (b 54, .inl (cI, 32, .inl (fun j => Int32.ofInt (s 54 j)))), (b 55, .inl (cI, 7, .inl (fun j => Int32.ofInt (s 55 j)))), (b 56, .inr (9, [.ref (b 57), .ref (b 58), .int (Int32.ofInt (s 56 (2 : Nat))), .int (Int32.ofInt (s 56 (3 : Nat))), .int (Int32.ofInt (s 56 (4 : Nat)))])), (b 57, .inl (cI, 20, .inl (fun j => Int32.ofInt (s 57 j)))), (b 58, .inl (cI, 800, .inl (fun j => Int32.ofInt (s 58 j)))), (b 59, .inr (0, [.ref (b 60), .ref (b 61), .ref (b 62), .ref (b 63), .ref (b 64), .ref (b 65), .ref (b 66), .ref (b 67), .ref (b 68), .int (Int32.ofInt (s 59 (9 : Nat))), .int (Int32.ofInt (s 59 (10 : Nat)))])), (b 60, .inl (cI, 64, .inl (fun j => Int32.ofInt (s 60 j)))), (b 61, .inl (cZ, 64, .inl (fun j => Int32.ofInt (s 61 j)))), (b 62, .inl (cI, 256, .inl (fun j => Int32.ofInt (s 62 j)))), (b 63, .inl (cI, 256, .inl (fun j => Int32.ofInt (s 63 j)))), (b 64, .inl (cI, 256, .inl (fun j => Int32.ofInt (s 64 j)))), (b 65, .inl (cI, 256, .inl (fun j => Int32.ofInt (s 65 j)))), (b 66, .inl (cI, 256, .inl (fun j => Int32.ofInt (s 66 j)))), (b 67, .inl (cI, 96, .inl (fun j => Int32.ofInt (s 67 j)))), (b 68, .inl (cI, 64, .inl (fun j => Int32.ofInt (s 68 j)))), (b 69, .inr (3, [.ref (b 70), .ref (b 71), .ref (b 72), .ref (b 73), .ref (b 74), .int (Int32.ofInt (s 69 (5 : Nat))), .int (Int32.ofInt (s 69 (6 : Nat)))])), (b 70, .inl (cI, 20, .inl (fun j => Int32.ofInt (s 70 j)))), (b 71, .inl (cI, 20, .inl (fun j => Int32.ofInt (s 71 j)))), (b 72, .inl (cI, 8, .inl (fun j => Int32.ofInt (s 72 j)))), (b 73, .inl (cI, 20, .inl (fun j => Int32.ofInt (s 73 j)))), (b 74, .inl (cI, 20, .inl (fun j => Int32.ofInt (s 74 j)))), (b 75, .inr (11, [.int (Int32.ofInt (s 75 (0 : Nat))), .int (Int32.ofInt (s 75 (1 : Nat))), .ref (b 76), .ref (b 77), .int (Int32.ofInt (s 75 (4 : Nat))), .ref (b 78), .ref (b 79), .ref (b 80), .int (Int32.ofInt (s 75 (8 : Nat))), .int (Int32.ofInt (s 75 (9 : Nat))), .ref (b 81), .ref (b 82), .ref (b 83), .ref (b 84), .ref (b 85), .ref (b 86), .ref (b 87), .ref (b 88), .int (Int32.ofInt (s 75 (18 : Nat))), .ref (b 89), .ref (b 90), .int (Int32.ofInt (s 75 (21 : Nat))), .int (Int32.ofInt (s 75 (22 : Nat))), .ref (b 91), .int (Int32.ofInt (s 75 (24 : Nat))), .int (Int32.ofInt (s 75 (25 : Nat))), .int (Int32.ofInt (s 75 (26 : Nat))), .int (Int32.ofInt (s 75 (27 : Nat))), .int (Int32.ofInt (s 75 (28 : Nat))), .ref (b 92), .int (Int32.ofInt (s 75 (30 : Nat))), .ref (b 93), .ref (b 94), .ref (b 95), .ref (b 96), .ref (b 97), .int (Int32.ofInt (s 75 (36 : Nat))), .int (Int32.ofInt (s 75 (37 : Nat))), .ref (b 98), .int (Int32.ofInt (s 75 (39 : Nat))), .int (Int32.ofInt (s 75 (40 : Nat))), .int (Int32.ofInt (s 75 (41 : Nat))), .int (Int32.ofInt (s 75 (42 : Nat))), .int (Int32.ofInt (s 75 (43 : Nat))), .ref (b 99), .ref (b 100), .ref (b 101), .ref (b 102), .ref (b 103), .ref (b 104), .ref (b 105), .ref (b 106), .ref (b 107), .int (Int32.ofInt (s 75 (53 : Nat))), .int (Int32.ofInt (s 75 (54 : Nat))), .int (Int32.ofInt (s 75 (55 : Nat))), .ref (b 108), .ref (b 109), .int (Int32.ofInt (s 75 (58 : Nat))), .int (Int32.ofInt (s 75 (59 : Nat))), .ref (b 110), .ref (b 111), .ref (b 112), .ref (b 113), .ref (b 114), .ref (b 115), .ref (b 116), .ref (b 117), .int (Int32.ofInt (s 75 (68 : Nat))), .int (Int32.ofInt (s 75 (69 : Nat))), .int (Int32.ofInt (s 75 (70 : Nat))), .ref (b 118)])), (b 76, .inl (cI, 51, .inl (fun j => Int32.ofInt (s 76 j)))), (b 77, .inl (cI, 306, .inl (fun j => Int32.ofInt (s 77 j)))), (b 78, .inl (cI, 20, .inl (fun j => Int32.ofInt (s 78 j)))), (b 79, .inl (cI, 20, .inl (fun j => Int32.ofInt (s 79 j)))), (b 80, .inl (cI, 20, .inl (fun j => Int32.ofInt (s 80 j)))), (b 81, .inl (cI, 168, .inl (fun j => Int32.ofInt (s 81 j)))), (b 82, .inl (cI, 7, .inl (fun j => Int32.ofInt (s 82 j)))), (b 83, .inl (cI, 6, .inl (fun j => Int32.ofInt (s 83 j)))), (b 84, .inl (cI, 6, .inl (fun j => Int32.ofInt (s 84 j)))), (b 85, .inl (cI, 6, .inl (fun j => Int32.ofInt (s 85 j)))), (b 86, .inl (cI, 6, .inl (fun j => Int32.ofInt (s 86 j)))), (b 87, .inl (cI, 6, .inl (fun j => Int32.ofInt (s 87 j)))), (b 88, .inl (cI, 6, .inl (fun j => Int32.ofInt (s 88 j)))), (b 89, .inl (cI, 12, .inl (fun j => Int32.ofInt (s 89 j)))), (b 90, .inl (cI, 12, .inl (fun j => Int32.ofInt (s 90 j)))), (b 91, .inl (cI, 400, .inl (fun j => Int32.ofInt (s 91 j)))), (b 92, .inl (cI, 81, .inl (fun j => Int32.ofInt (s 92 j)))), (b 93, .inl (cI, 32, .inl (fun j => Int32.ofInt (s 93 j)))), (b 94, .inl (cI, 32, .inl (fun j => Int32.ofInt (s 94 j)))), (b 95, .inl (cI, 32, .inl (fun j => Int32.ofInt (s 95 j)))), (b 96, .inl (cI, 800, .inl (fun j => Int32.ofInt (s 96 j)))), (b 97, .inl (cI, 800, .inl (fun j => Int32.ofInt (s 97 j)))), (b 98, .inl (cI, 40, .inl (fun j => Int32.ofInt (s 98 j)))), (b 99, .inl (cI, 10, .inl (fun j => Int32.ofInt (s 99 j)))), (b 100, .inl (cI, 420, .inl (fun j => Int32.ofInt (s 100 j)))), (b 101, .inl (cI, 8, .inl (fun j => Int32.ofInt (s 101 j)))), (b 102, .inl (cI, 20, .inl (fun j => Int32.ofInt (s 102 j)))), (b 103, .inl (cI, 20, .inl (fun j => Int32.ofInt (s 103 j)))), (b 104, .inl (cI, 7, .inl (fun j => Int32.ofInt (s 104 j)))), (b 105, .inl (cI, 7, .inl (fun j => Int32.ofInt (s 105 j)))), (b 106, .inl (cI, 6, .inl (fun j => Int32.ofInt (s 106 j)))), (b 107, .inl (cI, 820, .inl (fun j => Int32.ofInt (s 107 j)))), (b 108, .inl (cI, 20, .inl (fun j => Int32.ofInt (s 108 j)))), (b 109, .inl (cI, 20, .inl (fun j => Int32.ofInt (s 109 j)))), (b 110, .inl (cI, 64, .inl (fun j => Int32.ofInt (s 110 j)))), (b 111, .inl (cI, 8, .inl (fun j => Int32.ofInt (s 111 j)))), (b 112, .inl (cI, 256, .inl (fun j => Int32.ofInt (s 112 j)))), (b 113, .inl (cI, 8, .inl (fun j => Int32.ofInt (s 113 j)))), (b 114, .inl (cI, 20, .inl (fun j => Int32.ofInt (s 114 j)))), (b 115, .inl (cI, 20, .inl (fun j => Int32.ofInt (s 115 j)))), (b 116, .inl (cI, 20, .inl (fun j => Int32.ofInt (s 116 j)))), (b 117, .inl (cI, 20, .inl (fun j => Int32.ofInt (s 117 j)))), (b 118, .inl (cI, 1700, .inl (fun j => Int32.ofInt (s 118 j))))] := by
  rw [wld_wl]
  unfold LY
  simp only [wl, wE_wf, wE_in, wE_bo, wf, Nat.reduceAdd]
theorem fi_75_0 : Int32.ofInt (rowL l_75 ((0 : Nat) : Int)) = 0 := by decide
theorem fi_75_1 : Int32.ofInt (rowL l_75 ((1 : Nat) : Int)) = 0 := by decide
theorem fi_75_4 : Int32.ofInt (rowL l_75 ((4 : Nat) : Int)) = 0 := by decide
theorem fi_75_8 : Int32.ofInt (rowL l_75 ((8 : Nat) : Int)) = 0 := by decide
theorem fi_75_9 : Int32.ofInt (rowL l_75 ((9 : Nat) : Int)) = 5 := by decide
theorem fi_75_18 : Int32.ofInt (rowL l_75 ((18 : Nat) : Int)) = 0 := by decide
theorem fi_75_21 : Int32.ofInt (rowL l_75 ((21 : Nat) : Int)) = 0 := by decide
theorem fi_75_22 : Int32.ofInt (rowL l_75 ((22 : Nat) : Int)) = 0 := by decide
theorem fi_75_24 : Int32.ofInt (rowL l_75 ((24 : Nat) : Int)) = 0 := by decide
theorem fi_75_25 : Int32.ofInt (rowL l_75 ((25 : Nat) : Int)) = 0 := by decide
theorem fi_75_26 : Int32.ofInt (rowL l_75 ((26 : Nat) : Int)) = 0 := by decide
theorem fi_75_27 : Int32.ofInt (rowL l_75 ((27 : Nat) : Int)) = 0 := by decide
theorem fi_75_28 : Int32.ofInt (rowL l_75 ((28 : Nat) : Int)) = 0 := by decide
theorem fi_75_30 : Int32.ofInt (rowL l_75 ((30 : Nat) : Int)) = 0 := by decide
theorem fi_75_36 : Int32.ofInt (rowL l_75 ((36 : Nat) : Int)) = 0 := by decide
theorem fi_75_37 : Int32.ofInt (rowL l_75 ((37 : Nat) : Int)) = 0 := by decide
theorem fi_75_39 : Int32.ofInt (rowL l_75 ((39 : Nat) : Int)) = 0 := by decide
theorem fi_75_40 : Int32.ofInt (rowL l_75 ((40 : Nat) : Int)) = 0 := by decide
theorem fi_75_41 : Int32.ofInt (rowL l_75 ((41 : Nat) : Int)) = 0 := by decide
theorem fi_75_42 : Int32.ofInt (rowL l_75 ((42 : Nat) : Int)) = 0 := by decide
theorem fi_75_43 : Int32.ofInt (rowL l_75 ((43 : Nat) : Int)) = (-1) := by decide
theorem fi_75_53 : Int32.ofInt (rowL l_75 ((53 : Nat) : Int)) = 0 := by decide
theorem fi_75_54 : Int32.ofInt (rowL l_75 ((54 : Nat) : Int)) = 0 := by decide
theorem fi_75_55 : Int32.ofInt (rowL l_75 ((55 : Nat) : Int)) = 0 := by decide
theorem fi_75_58 : Int32.ofInt (rowL l_75 ((58 : Nat) : Int)) = 0 := by decide
theorem fi_75_59 : Int32.ofInt (rowL l_75 ((59 : Nat) : Int)) = 0 := by decide
theorem fi_75_68 : Int32.ofInt (rowL l_75 ((68 : Nat) : Int)) = 0 := by decide
theorem fi_75_69 : Int32.ofInt (rowL l_75 ((69 : Nat) : Int)) = 0 := by decide
theorem fi_75_70 : Int32.ofInt (rowL l_75 ((70 : Nat) : Int)) = 0 := by decide
theorem lm_82 : l_82.map Int32.ofInt = [0, 0, 1, 1, 1, 1, 0] := rfl
theorem lm_92 : l_92.map Int32.ofInt = [32, 109, 97, 121, 32, 98, 97, 114, 32, 119, 104, 101, 110, 32, 111, 114, 32, 97, 110, 100, 32, 110, 111, 116, 32, 108, 101, 116, 116, 101, 114, 115, 32, 102, 105, 114, 115, 116, 32, 108, 97, 115, 116, 32, 108, 105, 107, 101, 32, 97, 98, 114, 111, 97, 100, 32, 116, 119, 105, 99, 101, 32, 97, 103, 101, 32, 99, 111, 105, 110, 32, 115, 101, 120, 32, 119, 111, 114, 116, 104, 32] := rfl
theorem fi_39_3 : Int32.ofInt (rowL l_39 ((3 : Nat) : Int)) = 0 := by decide
theorem fi_39_4 : Int32.ofInt (rowL l_39 ((4 : Nat) : Int)) = 0 := by decide
theorem fi_39_5 : Int32.ofInt (rowL l_39 ((5 : Nat) : Int)) = (-1) := by decide
theorem fi_56_2 : Int32.ofInt (rowL l_56 ((2 : Nat) : Int)) = (-1) := by decide
theorem fi_56_3 : Int32.ofInt (rowL l_56 ((3 : Nat) : Int)) = 0 := by decide
theorem fi_56_4 : Int32.ofInt (rowL l_56 ((4 : Nat) : Int)) = 0 := by decide
theorem fi_59_9 : Int32.ofInt (rowL l_59 ((9 : Nat) : Int)) = (-1) := by decide
theorem fi_59_10 : Int32.ofInt (rowL l_59 ((10 : Nat) : Int)) = (-1) := by decide
theorem fi_69_5 : Int32.ofInt (rowL l_69 ((5 : Nat) : Int)) = (-1) := by decide
theorem fi_69_6 : Int32.ofInt (rowL l_69 ((6 : Nat) : Int)) = 0 := by decide
set_option maxRecDepth 100000 in
theorem fresh_eq {cI cZ : ClassId} {b : Nat → Nat} {h g : Nat} {qs rs : List Nat} (hb : ∀ k, k < 75 → b k = (h :: qs).getD k 0) (hg : ∀ k, k < 44 → b (75 + k) = (g :: rs).getD k 0) : wld LY cI cZ b S0 = FX11 cI cZ h qs ++ FX12 cI cZ g rs := by
  have b0 : b 0 = h := hb 0 (by decide)
  have b1 : b 1 = qs.getD 0 0 := hb 1 (by decide)
  have b2 : b 2 = qs.getD 1 0 := hb 2 (by decide)
  have b3 : b 3 = qs.getD 2 0 := hb 3 (by decide)
  have b4 : b 4 = qs.getD 3 0 := hb 4 (by decide)
  have b5 : b 5 = qs.getD 4 0 := hb 5 (by decide)
  have b6 : b 6 = qs.getD 5 0 := hb 6 (by decide)
  have b7 : b 7 = qs.getD 6 0 := hb 7 (by decide)
  have b8 : b 8 = qs.getD 7 0 := hb 8 (by decide)
  have b9 : b 9 = qs.getD 8 0 := hb 9 (by decide)
  have b10 : b 10 = qs.getD 9 0 := hb 10 (by decide)
  have b11 : b 11 = qs.getD 10 0 := hb 11 (by decide)
  have b12 : b 12 = qs.getD 11 0 := hb 12 (by decide)
  have b13 : b 13 = qs.getD 12 0 := hb 13 (by decide)
  have b14 : b 14 = qs.getD 13 0 := hb 14 (by decide)
  have b15 : b 15 = qs.getD 14 0 := hb 15 (by decide)
  have b16 : b 16 = qs.getD 15 0 := hb 16 (by decide)
  have b17 : b 17 = qs.getD 16 0 := hb 17 (by decide)
  have b18 : b 18 = qs.getD 17 0 := hb 18 (by decide)
  have b19 : b 19 = qs.getD 18 0 := hb 19 (by decide)
  have b20 : b 20 = qs.getD 19 0 := hb 20 (by decide)
  have b21 : b 21 = qs.getD 20 0 := hb 21 (by decide)
  have b22 : b 22 = qs.getD 21 0 := hb 22 (by decide)
  have b23 : b 23 = qs.getD 22 0 := hb 23 (by decide)
  have b24 : b 24 = qs.getD 23 0 := hb 24 (by decide)
  have b25 : b 25 = qs.getD 24 0 := hb 25 (by decide)
  have b26 : b 26 = qs.getD 25 0 := hb 26 (by decide)
  have b27 : b 27 = qs.getD 26 0 := hb 27 (by decide)
  have b28 : b 28 = qs.getD 27 0 := hb 28 (by decide)
  have b29 : b 29 = qs.getD 28 0 := hb 29 (by decide)
  have b30 : b 30 = qs.getD 29 0 := hb 30 (by decide)
  have b31 : b 31 = qs.getD 30 0 := hb 31 (by decide)
  have b32 : b 32 = qs.getD 31 0 := hb 32 (by decide)
  have b33 : b 33 = qs.getD 32 0 := hb 33 (by decide)
  have b34 : b 34 = qs.getD 33 0 := hb 34 (by decide)
  have b35 : b 35 = qs.getD 34 0 := hb 35 (by decide)
  have b36 : b 36 = qs.getD 35 0 := hb 36 (by decide)
  have b37 : b 37 = qs.getD 36 0 := hb 37 (by decide)
  have b38 : b 38 = qs.getD 37 0 := hb 38 (by decide)
  have b39 : b 39 = qs.getD 38 0 := hb 39 (by decide)
  have b40 : b 40 = qs.getD 39 0 := hb 40 (by decide)
  have b41 : b 41 = qs.getD 40 0 := hb 41 (by decide)
  have b42 : b 42 = qs.getD 41 0 := hb 42 (by decide)
  have b43 : b 43 = qs.getD 42 0 := hb 43 (by decide)
  have b44 : b 44 = qs.getD 43 0 := hb 44 (by decide)
  have b45 : b 45 = qs.getD 44 0 := hb 45 (by decide)
  have b46 : b 46 = qs.getD 45 0 := hb 46 (by decide)
  have b47 : b 47 = qs.getD 46 0 := hb 47 (by decide)
  have b48 : b 48 = qs.getD 47 0 := hb 48 (by decide)
  have b49 : b 49 = qs.getD 48 0 := hb 49 (by decide)
  have b50 : b 50 = qs.getD 49 0 := hb 50 (by decide)
  have b51 : b 51 = qs.getD 50 0 := hb 51 (by decide)
  have b52 : b 52 = qs.getD 51 0 := hb 52 (by decide)
  have b53 : b 53 = qs.getD 52 0 := hb 53 (by decide)
  have b54 : b 54 = qs.getD 53 0 := hb 54 (by decide)
  have b55 : b 55 = qs.getD 54 0 := hb 55 (by decide)
  have b56 : b 56 = qs.getD 55 0 := hb 56 (by decide)
  have b57 : b 57 = qs.getD 56 0 := hb 57 (by decide)
  have b58 : b 58 = qs.getD 57 0 := hb 58 (by decide)
  have b59 : b 59 = qs.getD 58 0 := hb 59 (by decide)
  have b60 : b 60 = qs.getD 59 0 := hb 60 (by decide)
  have b61 : b 61 = qs.getD 60 0 := hb 61 (by decide)
  have b62 : b 62 = qs.getD 61 0 := hb 62 (by decide)
  have b63 : b 63 = qs.getD 62 0 := hb 63 (by decide)
  have b64 : b 64 = qs.getD 63 0 := hb 64 (by decide)
  have b65 : b 65 = qs.getD 64 0 := hb 65 (by decide)
  have b66 : b 66 = qs.getD 65 0 := hb 66 (by decide)
  have b67 : b 67 = qs.getD 66 0 := hb 67 (by decide)
  have b68 : b 68 = qs.getD 67 0 := hb 68 (by decide)
  have b69 : b 69 = qs.getD 68 0 := hb 69 (by decide)
  have b70 : b 70 = qs.getD 69 0 := hb 70 (by decide)
  have b71 : b 71 = qs.getD 70 0 := hb 71 (by decide)
  have b72 : b 72 = qs.getD 71 0 := hb 72 (by decide)
  have b73 : b 73 = qs.getD 72 0 := hb 73 (by decide)
  have b74 : b 74 = qs.getD 73 0 := hb 74 (by decide)
  have b75 : b 75 = g := hg 0 (by decide)
  have b76 : b 76 = rs.getD 0 0 := hg 1 (by decide)
  have b77 : b 77 = rs.getD 1 0 := hg 2 (by decide)
  have b78 : b 78 = rs.getD 2 0 := hg 3 (by decide)
  have b79 : b 79 = rs.getD 3 0 := hg 4 (by decide)
  have b80 : b 80 = rs.getD 4 0 := hg 5 (by decide)
  have b81 : b 81 = rs.getD 5 0 := hg 6 (by decide)
  have b82 : b 82 = rs.getD 6 0 := hg 7 (by decide)
  have b83 : b 83 = rs.getD 7 0 := hg 8 (by decide)
  have b84 : b 84 = rs.getD 8 0 := hg 9 (by decide)
  have b85 : b 85 = rs.getD 9 0 := hg 10 (by decide)
  have b86 : b 86 = rs.getD 10 0 := hg 11 (by decide)
  have b87 : b 87 = rs.getD 11 0 := hg 12 (by decide)
  have b88 : b 88 = rs.getD 12 0 := hg 13 (by decide)
  have b89 : b 89 = rs.getD 13 0 := hg 14 (by decide)
  have b90 : b 90 = rs.getD 14 0 := hg 15 (by decide)
  have b91 : b 91 = rs.getD 15 0 := hg 16 (by decide)
  have b92 : b 92 = rs.getD 16 0 := hg 17 (by decide)
  have b93 : b 93 = rs.getD 17 0 := hg 18 (by decide)
  have b94 : b 94 = rs.getD 18 0 := hg 19 (by decide)
  have b95 : b 95 = rs.getD 19 0 := hg 20 (by decide)
  have b96 : b 96 = rs.getD 20 0 := hg 21 (by decide)
  have b97 : b 97 = rs.getD 21 0 := hg 22 (by decide)
  have b98 : b 98 = rs.getD 22 0 := hg 23 (by decide)
  have b99 : b 99 = rs.getD 23 0 := hg 24 (by decide)
  have b100 : b 100 = rs.getD 24 0 := hg 25 (by decide)
  have b101 : b 101 = rs.getD 25 0 := hg 26 (by decide)
  have b102 : b 102 = rs.getD 26 0 := hg 27 (by decide)
  have b103 : b 103 = rs.getD 27 0 := hg 28 (by decide)
  have b104 : b 104 = rs.getD 28 0 := hg 29 (by decide)
  have b105 : b 105 = rs.getD 29 0 := hg 30 (by decide)
  have b106 : b 106 = rs.getD 30 0 := hg 31 (by decide)
  have b107 : b 107 = rs.getD 31 0 := hg 32 (by decide)
  have b108 : b 108 = rs.getD 32 0 := hg 33 (by decide)
  have b109 : b 109 = rs.getD 33 0 := hg 34 (by decide)
  have b110 : b 110 = rs.getD 34 0 := hg 35 (by decide)
  have b111 : b 111 = rs.getD 35 0 := hg 36 (by decide)
  have b112 : b 112 = rs.getD 36 0 := hg 37 (by decide)
  have b113 : b 113 = rs.getD 37 0 := hg 38 (by decide)
  have b114 : b 114 = rs.getD 38 0 := hg 39 (by decide)
  have b115 : b 115 = rs.getD 39 0 := hg 40 (by decide)
  have b116 : b 116 = rs.getD 40 0 := hg 41 (by decide)
  have b117 : b 117 = rs.getD 41 0 := hg 42 (by decide)
  have b118 : b 118 = rs.getD 42 0 := hg 43 (by decide)
  rw [wld_LY]
  simp only [b0, b1, b2, b3, b4, b5, b6, b7, b8, b9, b10, b11, b12, b13, b14, b15, b16, b17, b18, b19, b20, b21, b22, b23, b24, b25, b26, b27, b28, b29, b30, b31, b32, b33, b34, b35, b36, b37, b38, b39, b40, b41, b42, b43, b44, b45, b46, b47, b48, b49, b50, b51, b52, b53, b54, b55, b56, b57, b58, b59, b60, b61, b62, b63, b64, b65, b66, b67, b68, b69, b70, b71, b72, b73, b74, b75, b76, b77, b78, b79, b80, b81, b82, b83, b84, b85, b86, b87, b88, b89, b90, b91, b92, b93, b94, b95, b96, b97, b98, b99, b100, b101, b102, b103, b104, b105, b106, b107, b108, b109, b110, b111, b112, b113, b114, b115, b116, b117, b118, s0_0, s0_1, s0_2, s0_3, s0_4, s0_5, s0_6, s0_7, s0_8, s0_9, s0_10, s0_11, s0_12, s0_13, s0_14, s0_15, s0_16, s0_17, s0_18, s0_19, s0_20, s0_21, s0_22, s0_23, s0_24, s0_25, s0_26, s0_27, s0_28, s0_29, s0_30, s0_31, s0_32, s0_33, s0_34, s0_35, s0_36, s0_37, s0_38, s0_39, s0_40, s0_41, s0_42, s0_43, s0_44, s0_45, s0_46, s0_47, s0_48, s0_49, s0_50, s0_51, s0_52, s0_53, s0_54, s0_55, s0_56, s0_57, s0_58, s0_59, s0_60, s0_61, s0_62, s0_63, s0_64, s0_65, s0_66, s0_67, s0_68, s0_69, s0_70, s0_71, s0_72, s0_73, s0_74, s0_75, s0_76, s0_77, s0_78, s0_79, s0_80, s0_81, s0_82, s0_83, s0_84, s0_85, s0_86, s0_87, s0_88, s0_89, s0_90, s0_91, s0_92, s0_93, s0_94, s0_95, s0_96, s0_97, s0_98, s0_99, s0_100, s0_101, s0_102, s0_103, s0_104, s0_105, s0_106, s0_107, s0_108, s0_109, s0_110, s0_111, s0_112, s0_113, s0_114, s0_115, s0_116, s0_117, s0_118, rowL_a, oi_0, fi_75_0, fi_75_1, fi_75_4, fi_75_8, fi_75_9, fi_75_18, fi_75_21, fi_75_22, fi_75_24, fi_75_25, fi_75_26, fi_75_27, fi_75_28, fi_75_30, fi_75_36, fi_75_37, fi_75_39, fi_75_40, fi_75_41, fi_75_42, fi_75_43, fi_75_53, fi_75_54, fi_75_55, fi_75_58, fi_75_59, fi_75_68, fi_75_69, fi_75_70, lm_82, lm_92, fi_39_3, fi_39_4, fi_39_5, fi_56_2, fi_56_3, fi_56_4, fi_59_9, fi_59_10, fi_69_5, fi_69_6]
  rfl
