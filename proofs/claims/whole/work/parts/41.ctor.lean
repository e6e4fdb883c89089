/-! ===== by program (wip/whole/gen40.py): the constructors ===== -/
def ly0 : sw_L := [.inr (10, [some none, some none, some none, some none, some none, some none, some none, some none, some none, some none, some none, some none, some none, none, none])]
def ly1 : sw_L := [.inr (10, [some none, some none, some none, some none, some none, some none, some none, some none, some none, some none, some none, some none, some none, none, none]), .inr (7, [some none, none, none, none, none, none, none, none, none])]
def ly2 : sw_L := [.inr (10, [some none, some none, some none, some none, some none, some none, some none, some none, some none, some none, some none, some none, some none, none, none]), .inr (7, [some (some 2), none, none, none, none, none, none, none, none]), .inl (false, 600)]
def ly3 : sw_L := [.inr (10, [some (some 1), some none, some none, some none, some none, some none, some none, some none, some none, some none, some none, some none, some none, none, none]), .inr (7, [some (some 2), none, none, none, none, none, none, none, none]), .inl (false, 600), .inr (4, [none, none, none, none, none, some none, some none, some none, some none, some none, some none, some none])]
def ly4 : sw_L := [.inr (10, [some (some 1), some none, some none, some none, some none, some none, some none, some none, some none, some none, some none, some none, some none, none, none]), .inr (7, [some (some 2), none, none, none, none, none, none, none, none]), .inl (false, 600), .inr (4, [none, none, none, none, none, some (some 4), some (some 5), some (some 6), some (some 7), some (some 8), some (some 9), some (some 10)]), .inl (false, 12), .inl (false, 12), .inl (false, 12), .inl (false, 6), .inl (false, 6), .inl (false, 5), .inl (false, 5)]
def ly5 : sw_L := [.inr (10, [some (some 1), some (some 3), some none, some none, some none, some none, some none, some none, some none, some none, some none, some none, some none, none, none]), .inr (7, [some (some 2), none, none, none, none, none, none, none, none]), .inl (false, 600), .inr (4, [none, none, none, none, none, some (some 4), some (some 5), some (some 6), some (some 7), some (some 8), some (some 9), some (some 10)]), .inl (false, 12), .inl (false, 12), .inl (false, 12), .inl (false, 6), .inl (false, 6), .inl (false, 5), .inl (false, 5), .inr (4, [none, none, none, none, none, some none, some none, some none, some none, some none, some none, some none])]
def ly6 : sw_L := [.inr (10, [some (some 1), some (some 3), some none, some none, some none, some none, some none, some none, some none, some none, some none, some none, some none, none, none]), .inr (7, [some (some 2), none, none, none, none, none, none, none, none]), .inl (false, 600), .inr (4, [none, none, none, none, none, some (some 4), some (some 5), some (some 6), some (some 7), some (some 8), some (some 9), some (some 10)]), .inl (false, 12), .inl (false, 12), .inl (false, 12), .inl (false, 6), .inl (false, 6), .inl (false, 5), .inl (false, 5), .inr (4, [none, none, none, none, none, some (some 12), some (some 13), some (some 14), some (some 15), some (some 16), some (some 17), some (some 18)]), .inl (false, 12), .inl (false, 12), .inl (false, 12), .inl (false, 6), .inl (false, 6), .inl (false, 5), .inl (false, 5)]
def ly7 : sw_L := [.inr (10, [some (some 1), some (some 3), some (some 11), some none, some none, some none, some none, some none, some none, some none, some none, some none, some none, none, none]), .inr (7, [some (some 2), none, none, none, none, none, none, none, none]), .inl (false, 600), .inr (4, [none, none, none, none, none, some (some 4), some (some 5), some (some 6), some (some 7), some (some 8), some (some 9), some (some 10)]), .inl (false, 12), .inl (false, 12), .inl (false, 12), .inl (false, 6), .inl (false, 6), .inl (false, 5), .inl (false, 5), .inr (4, [none, none, none, none, none, some (some 12), some (some 13), some (some 14), some (some 15), some (some 16), some (some 17), some (some 18)]), .inl (false, 12), .inl (false, 12), .inl (false, 12), .inl (false, 6), .inl (false, 6), .inl (false, 5), .inl (false, 5), .inr (5, [some none, some none, some none, some none, none, none])]
def ly8 : sw_L := [.inr (10, [some (some 1), some (some 3), some (some 11), some none, some none, some none, some none, some none, some none, some none, some none, some none, some none, none, none]), .inr (7, [some (some 2), none, none, none, none, none, none, none, none]), .inl (false, 600), .inr (4, [none, none, none, none, none, some (some 4), some (some 5), some (some 6), some (some 7), some (some 8), some (some 9), some (some 10)]), .inl (false, 12), .inl (false, 12), .inl (false, 12), .inl (false, 6), .inl (false, 6), .inl (false, 5), .inl (false, 5), .inr (4, [none, none, none, none, none, some (some 12), some (some 13), some (some 14), some (some 15), some (some 16), some (some 17), some (some 18)]), .inl (false, 12), .inl (false, 12), .inl (false, 12), .inl (false, 6), .inl (false, 6), .inl (false, 5), .inl (false, 5), .inr (5, [some (some 20), some (some 21), some (some 22), some (some 23), none, none]), .inl (false, 150), .inl (false, 150), .inl (false, 7), .inl (false, 150)]
def ly9 : sw_L := [.inr (10, [some (some 1), some (some 3), some (some 11), some (some 19), some none, some none, some none, some none, some none, some none, some none, some none, some none, none, none]), .inr (7, [some (some 2), none, none, none, none, none, none, none, none]), .inl (false, 600), .inr (4, [none, none, none, none, none, some (some 4), some (some 5), some (some 6), some (some 7), some (some 8), some (some 9), some (some 10)]), .inl (false, 12), .inl (false, 12), .inl (false, 12), .inl (false, 6), .inl (false, 6), .inl (false, 5), .inl (false, 5), .inr (4, [none, none, none, none, none, some (some 12), some (some 13), some (some 14), some (some 15), some (some 16), some (some 17), some (some 18)]), .inl (false, 12), .inl (false, 12), .inl (false, 12), .inl (false, 6), .inl (false, 6), .inl (false, 5), .inl (false, 5), .inr (5, [some (some 20), some (some 21), some (some 22), some (some 23), none, none]), .inl (false, 150), .inl (false, 150), .inl (false, 7), .inl (false, 150), .inr (5, [some none, some none, some none, some none, none, none])]
def ly10 : sw_L := [.inr (10, [some (some 1), some (some 3), some (some 11), some (some 19), some none, some none, some none, some none, some none, some none, some none, some none, some none, none, none]), .inr (7, [some (some 2), none, none, none, none, none, none, none, none]), .inl (false, 600), .inr (4, [none, none, none, none, none, some (some 4), some (some 5), some (some 6), some (some 7), some (some 8), some (some 9), some (some 10)]), .inl (false, 12), .inl (false, 12), .inl (false, 12), .inl (false, 6), .inl (false, 6), .inl (false, 5), .inl (false, 5), .inr (4, [none, none, none, none, none, some (some 12), some (some 13), some (some 14), some (some 15), some (some 16), some (some 17), some (some 18)]), .inl (false, 12), .inl (false, 12), .inl (false, 12), .inl (false, 6), .inl (false, 6), .inl (false, 5), .inl (false, 5), .inr (5, [some (some 20), some (some 21), some (some 22), some (some 23), none, none]), .inl (false, 150), .inl (false, 150), .inl (false, 7), .inl (false, 150), .inr (5, [some (some 25), some (some 26), some (some 27), some (some 28), none, none]), .inl (false, 150), .inl (false, 150), .inl (false, 7), .inl (false, 150)]
def ly11 : sw_L := [.inr (10, [some (some 1), some (some 3), some (some 11), some (some 19), some (some 24), some none, some none, some none, some none, some none, some none, some none, some none, none, none]), .inr (7, [some (some 2), none, none, none, none, none, none, none, none]), .inl (false, 600), .inr (4, [none, none, none, none, none, some (some 4), some (some 5), some (some 6), some (some 7), some (some 8), some (some 9), some (some 10)]), .inl (false, 12), .inl (false, 12), .inl (false, 12), .inl (false, 6), .inl (false, 6), .inl (false, 5), .inl (false, 5), .inr (4, [none, none, none, none, none, some (some 12), some (some 13), some (some 14), some (some 15), some (some 16), some (some 17), some (some 18)]), .inl (false, 12), .inl (false, 12), .inl (false, 12), .inl (false, 6), .inl (false, 6), .inl (false, 5), .inl (false, 5), .inr (5, [some (some 20), some (some 21), some (some 22), some (some 23), none, none]), .inl (false, 150), .inl (false, 150), .inl (false, 7), .inl (false, 150), .inr (5, [some (some 25), some (some 26), some (some 27), some (some 28), none, none]), .inl (false, 150), .inl (false, 150), .inl (false, 7), .inl (false, 150), .inr (1, [none, some none, some none])]
def ly12 : sw_L := [.inr (10, [some (some 1), some (some 3), some (some 11), some (some 19), some (some 24), some none, some none, some none, some none, some none, some none, some none, some none, none, none]), .inr (7, [some (some 2), none, none, none, none, none, none, none, none]), .inl (false, 600), .inr (4, [none, none, none, none, none, some (some 4), some (some 5), some (some 6), some (some 7), some (some 8), some (some 9), some (some 10)]), .inl (false, 12), .inl (false, 12), .inl (false, 12), .inl (false, 6), .inl (false, 6), .inl (false, 5), .inl (false, 5), .inr (4, [none, none, none, none, none, some (some 12), some (some 13), some (some 14), some (some 15), some (some 16), some (some 17), some (some 18)]), .inl (false, 12), .inl (false, 12), .inl (false, 12), .inl (false, 6), .inl (false, 6), .inl (false, 5), .inl (false, 5), .inr (5, [some (some 20), some (some 21), some (some 22), some (some 23), none, none]), .inl (false, 150), .inl (false, 150), .inl (false, 7), .inl (false, 150), .inr (5, [some (some 25), some (some 26), some (some 27), some (some 28), none, none]), .inl (false, 150), .inl (false, 150), .inl (false, 7), .inl (false, 150), .inr (1, [none, some (some 30), some (some 31)]), .inl (false, 8), .inl (false, 8)]
def ly13 : sw_L := [.inr (10, [some (some 1), some (some 3), some (some 11), some (some 19), some (some 24), some (some 29), some none, some none, some none, some none, some none, some none, some none, none, none]), .inr (7, [some (some 2), none, none, none, none, none, none, none, none]), .inl (false, 600), .inr (4, [none, none, none, none, none, some (some 4), some (some 5), some (some 6), some (some 7), some (some 8), some (some 9), some (some 10)]), .inl (false, 12), .inl (false, 12), .inl (false, 12), .inl (false, 6), .inl (false, 6), .inl (false, 5), .inl (false, 5), .inr (4, [none, none, none, none, none, some (some 12), some (some 13), some (some 14), some (some 15), some (some 16), some (some 17), some (some 18)]), .inl (false, 12), .inl (false, 12), .inl (false, 12), .inl (false, 6), .inl (false, 6), .inl (false, 5), .inl (false, 5), .inr (5, [some (some 20), some (some 21), some (some 22), some (some 23), none, none]), .inl (false, 150), .inl (false, 150), .inl (false, 7), .inl (false, 150), .inr (5, [some (some 25), some (some 26), some (some 27), some (some 28), none, none]), .inl (false, 150), .inl (false, 150), .inl (false, 7), .inl (false, 150), .inr (1, [none, some (some 30), some (some 31)]), .inl (false, 8), .inl (false, 8), .inr (1, [none, some none, some none])]
def ly14 : sw_L := [.inr (10, [some (some 1), some (some 3), some (some 11), some (some 19), some (some 24), some (some 29), some none, some none, some none, some none, some none, some none, some none, none, none]), .inr (7, [some (some 2), none, none, none, none, none, none, none, none]), .inl (false, 600), .inr (4, [none, none, none, none, none, some (some 4), some (some 5), some (some 6), some (some 7), some (some 8), some (some 9), some (some 10)]), .inl (false, 12), .inl (false, 12), .inl (false, 12), .inl (false, 6), .inl (false, 6), .inl (false, 5), .inl (false, 5), .inr (4, [none, none, none, none, none, some (some 12), some (some 13), some (some 14), some (some 15), some (some 16), some (some 17), some (some 18)]), .inl (false, 12), .inl (false, 12), .inl (false, 12), .inl (false, 6), .inl (false, 6), .inl (false, 5), .inl (false, 5), .inr (5, [some (some 20), some (some 21), some (some 22), some (some 23), none, none]), .inl (false, 150), .inl (false, 150), .inl (false, 7), .inl (false, 150), .inr (5, [some (some 25), some (some 26), some (some 27), some (some 28), none, none]), .inl (false, 150), .inl (false, 150), .inl (false, 7), .inl (false, 150), .inr (1, [none, some (some 30), some (some 31)]), .inl (false, 8), .inl (false, 8), .inr (1, [none, some (some 33), some (some 34)]), .inl (false, 8), .inl (false, 8)]
def ly15 : sw_L := [.inr (10, [some (some 1), some (some 3), some (some 11), some (some 19), some (some 24), some (some 29), some (some 32), some none, some none, some none, some none, some none, some none, none, none]), .inr (7, [some (some 2), none, none, none, none, none, none, none, none]), .inl (false, 600), .inr (4, [none, none, none, none, none, some (some 4), some (some 5), some (some 6), some (some 7), some (some 8), some (some 9), some (some 10)]), .inl (false, 12), .inl (false, 12), .inl (false, 12), .inl (false, 6), .inl (false, 6), .inl (false, 5), .inl (false, 5), .inr (4, [none, none, none, none, none, some (some 12), some (some 13), some (some 14), some (some 15), some (some 16), some (some 17), some (some 18)]), .inl (false, 12), .inl (false, 12), .inl (false, 12), .inl (false, 6), .inl (false, 6), .inl (false, 5), .inl (false, 5), .inr (5, [some (some 20), some (some 21), some (some 22), some (some 23), none, none]), .inl (false, 150), .inl (false, 150), .inl (false, 7), .inl (false, 150), .inr (5, [some (some 25), some (some 26), some (some 27), some (some 28), none, none]), .inl (false, 150), .inl (false, 150), .inl (false, 7), .inl (false, 150), .inr (1, [none, some (some 30), some (some 31)]), .inl (false, 8), .inl (false, 8), .inr (1, [none, some (some 33), some (some 34)]), .inl (false, 8), .inl (false, 8), .inr (2, [some none, some none, none, none, none, none, some none, some none, some none, some none, some none])]
def ly16 : sw_L := [.inr (10, [some (some 1), some (some 3), some (some 11), some (some 19), some (some 24), some (some 29), some (some 32), some none, some none, some none, some none, some none, some none, none, none]), .inr (7, [some (some 2), none, none, none, none, none, none, none, none]), .inl (false, 600), .inr (4, [none, none, none, none, none, some (some 4), some (some 5), some (some 6), some (some 7), some (some 8), some (some 9), some (some 10)]), .inl (false, 12), .inl (false, 12), .inl (false, 12), .inl (false, 6), .inl (false, 6), .inl (false, 5), .inl (false, 5), .inr (4, [none, none, none, none, none, some (some 12), some (some 13), some (some 14), some (some 15), some (some 16), some (some 17), some (some 18)]), .inl (false, 12), .inl (false, 12), .inl (false, 12), .inl (false, 6), .inl (false, 6), .inl (false, 5), .inl (false, 5), .inr (5, [some (some 20), some (some 21), some (some 22), some (some 23), none, none]), .inl (false, 150), .inl (false, 150), .inl (false, 7), .inl (false, 150), .inr (5, [some (some 25), some (some 26), some (some 27), some (some 28), none, none]), .inl (false, 150), .inl (false, 150), .inl (false, 7), .inl (false, 150), .inr (1, [none, some (some 30), some (some 31)]), .inl (false, 8), .inl (false, 8), .inr (1, [none, some (some 33), some (some 34)]), .inl (false, 8), .inl (false, 8), .inr (2, [some (some 3), some (some 19), none, none, none, none, some (some 36), some (some 37), some (some 38), some (some 39), some (some 40)]), .inl (false, 12), .inl (false, 6), .inl (false, 6), .inl (false, 5), .inl (false, 5)]
def ly17 : sw_L := [.inr (10, [some (some 1), some (some 3), some (some 11), some (some 19), some (some 24), some (some 29), some (some 32), some (some 35), some none, some none, some none, some none, some none, none, none]), .inr (7, [some (some 2), none, none, none, none, none, none, none, none]), .inl (false, 600), .inr (4, [none, none, none, none, none, some (some 4), some (some 5), some (some 6), some (some 7), some (some 8), some (some 9), some (some 10)]), .inl (false, 12), .inl (false, 12), .inl (false, 12), .inl (false, 6), .inl (false, 6), .inl (false, 5), .inl (false, 5), .inr (4, [none, none, none, none, none, some (some 12), some (some 13), some (some 14), some (some 15), some (some 16), some (some 17), some (some 18)]), .inl (false, 12), .inl (false, 12), .inl (false, 12), .inl (false, 6), .inl (false, 6), .inl (false, 5), .inl (false, 5), .inr (5, [some (some 20), some (some 21), some (some 22), some (some 23), none, none]), .inl (false, 150), .inl (false, 150), .inl (false, 7), .inl (false, 150), .inr (5, [some (some 25), some (some 26), some (some 27), some (some 28), none, none]), .inl (false, 150), .inl (false, 150), .inl (false, 7), .inl (false, 150), .inr (1, [none, some (some 30), some (some 31)]), .inl (false, 8), .inl (false, 8), .inr (1, [none, some (some 33), some (some 34)]), .inl (false, 8), .inl (false, 8), .inr (2, [some (some 3), some (some 19), none, none, none, none, some (some 36), some (some 37), some (some 38), some (some 39), some (some 40)]), .inl (false, 12), .inl (false, 6), .inl (false, 6), .inl (false, 5), .inl (false, 5), .inr (9, [some none, some none, some none, some none, some none, none, none, none, none])]
def ly18 : sw_L := [.inr (10, [some (some 1), some (some 3), some (some 11), some (some 19), some (some 24), some (some 29), some (some 32), some (some 35), some none, some none, some none, some none, some none, none, none]), .inr (7, [some (some 2), none, none, none, none, none, none, none, none]), .inl (false, 600), .inr (4, [none, none, none, none, none, some (some 4), some (some 5), some (some 6), some (some 7), some (some 8), some (some 9), some (some 10)]), .inl (false, 12), .inl (false, 12), .inl (false, 12), .inl (false, 6), .inl (false, 6), .inl (false, 5), .inl (false, 5), .inr (4, [none, none, none, none, none, some (some 12), some (some 13), some (some 14), some (some 15), some (some 16), some (some 17), some (some 18)]), .inl (false, 12), .inl (false, 12), .inl (false, 12), .inl (false, 6), .inl (false, 6), .inl (false, 5), .inl (false, 5), .inr (5, [some (some 20), some (some 21), some (some 22), some (some 23), none, none]), .inl (false, 150), .inl (false, 150), .inl (false, 7), .inl (false, 150), .inr (5, [some (some 25), some (some 26), some (some 27), some (some 28), none, none]), .inl (false, 150), .inl (false, 150), .inl (false, 7), .inl (false, 150), .inr (1, [none, some (some 30), some (some 31)]), .inl (false, 8), .inl (false, 8), .inr (1, [none, some (some 33), some (some 34)]), .inl (false, 8), .inl (false, 8), .inr (2, [some (some 3), some (some 19), none, none, none, none, some (some 36), some (some 37), some (some 38), some (some 39), some (some 40)]), .inl (false, 12), .inl (false, 6), .inl (false, 6), .inl (false, 5), .inl (false, 5), .inr (9, [some (some 35), some (some 3), some (some 42), some (some 43), some (some 44), none, none, none, none]), .inl (false, 150), .inl (false, 150), .inl (false, 150)]
def ly19 : sw_L := [.inr (10, [some (some 1), some (some 3), some (some 11), some (some 19), some (some 24), some (some 29), some (some 32), some (some 35), some (some 41), some none, some none, some none, some none, none, none]), .inr (7, [some (some 2), none, none, none, none, none, none, none, none]), .inl (false, 600), .inr (4, [none, none, none, none, none, some (some 4), some (some 5), some (some 6), some (some 7), some (some 8), some (some 9), some (some 10)]), .inl (false, 12), .inl (false, 12), .inl (false, 12), .inl (false, 6), .inl (false, 6), .inl (false, 5), .inl (false, 5), .inr (4, [none, none, none, none, none, some (some 12), some (some 13), some (some 14), some (some 15), some (some 16), some (some 17), some (some 18)]), .inl (false, 12), .inl (false, 12), .inl (false, 12), .inl (false, 6), .inl (false, 6), .inl (false, 5), .inl (false, 5), .inr (5, [some (some 20), some (some 21), some (some 22), some (some 23), none, none]), .inl (false, 150), .inl (false, 150), .inl (false, 7), .inl (false, 150), .inr (5, [some (some 25), some (some 26), some (some 27), some (some 28), none, none]), .inl (false, 150), .inl (false, 150), .inl (false, 7), .inl (false, 150), .inr (1, [none, some (some 30), some (some 31)]), .inl (false, 8), .inl (false, 8), .inr (1, [none, some (some 33), some (some 34)]), .inl (false, 8), .inl (false, 8), .inr (2, [some (some 3), some (some 19), none, none, none, none, some (some 36), some (some 37), some (some 38), some (some 39), some (some 40)]), .inl (false, 12), .inl (false, 6), .inl (false, 6), .inl (false, 5), .inl (false, 5), .inr (9, [some (some 35), some (some 3), some (some 42), some (some 43), some (some 44), none, none, none, none]), .inl (false, 150), .inl (false, 150), .inl (false, 150), .inr (6, [some none, some none, some none, some none, none, none])]
def ly20 : sw_L := [.inr (10, [some (some 1), some (some 3), some (some 11), some (some 19), some (some 24), some (some 29), some (some 32), some (some 35), some (some 41), some none, some none, some none, some none, none, none]), .inr (7, [some (some 2), none, none, none, none, none, none, none, none]), .inl (false, 600), .inr (4, [none, none, none, none, none, some (some 4), some (some 5), some (some 6), some (some 7), some (some 8), some (some 9), some (some 10)]), .inl (false, 12), .inl (false, 12), .inl (false, 12), .inl (false, 6), .inl (false, 6), .inl (false, 5), .inl (false, 5), .inr (4, [none, none, none, none, none, some (some 12), some (some 13), some (some 14), some (some 15), some (some 16), some (some 17), some (some 18)]), .inl (false, 12), .inl (false, 12), .inl (false, 12), .inl (false, 6), .inl (false, 6), .inl (false, 5), .inl (false, 5), .inr (5, [some (some 20), some (some 21), some (some 22), some (some 23), none, none]), .inl (false, 150), .inl (false, 150), .inl (false, 7), .inl (false, 150), .inr (5, [some (some 25), some (some 26), some (some 27), some (some 28), none, none]), .inl (false, 150), .inl (false, 150), .inl (false, 7), .inl (false, 150), .inr (1, [none, some (some 30), some (some 31)]), .inl (false, 8), .inl (false, 8), .inr (1, [none, some (some 33), some (some 34)]), .inl (false, 8), .inl (false, 8), .inr (2, [some (some 3), some (some 19), none, none, none, none, some (some 36), some (some 37), some (some 38), some (some 39), some (some 40)]), .inl (false, 12), .inl (false, 6), .inl (false, 6), .inl (false, 5), .inl (false, 5), .inr (9, [some (some 35), some (some 3), some (some 42), some (some 43), some (some 44), none, none, none, none]), .inl (false, 150), .inl (false, 150), .inl (false, 150), .inr (6, [some (some 35), some (some 46), some (some 47), some (some 48), none, none]), .inl (false, 608), .inl (false, 1938), .inl (false, 3)]
def ly21 : sw_L := [.inr (10, [some (some 1), some (some 3), some (some 11), some (some 19), some (some 24), some (some 29), some (some 32), some (some 35), some (some 41), some (some 45), some none, some none, some none, none, none]), .inr (7, [some (some 2), none, none, none, none, none, none, none, none]), .inl (false, 600), .inr (4, [none, none, none, none, none, some (some 4), some (some 5), some (some 6), some (some 7), some (some 8), some (some 9), some (some 10)]), .inl (false, 12), .inl (false, 12), .inl (false, 12), .inl (false, 6), .inl (false, 6), .inl (false, 5), .inl (false, 5), .inr (4, [none, none, none, none, none, some (some 12), some (some 13), some (some 14), some (some 15), some (some 16), some (some 17), some (some 18)]), .inl (false, 12), .inl (false, 12), .inl (false, 12), .inl (false, 6), .inl (false, 6), .inl (false, 5), .inl (false, 5), .inr (5, [some (some 20), some (some 21), some (some 22), some (some 23), none, none]), .inl (false, 150), .inl (false, 150), .inl (false, 7), .inl (false, 150), .inr (5, [some (some 25), some (some 26), some (some 27), some (some 28), none, none]), .inl (false, 150), .inl (false, 150), .inl (false, 7), .inl (false, 150), .inr (1, [none, some (some 30), some (some 31)]), .inl (false, 8), .inl (false, 8), .inr (1, [none, some (some 33), some (some 34)]), .inl (false, 8), .inl (false, 8), .inr (2, [some (some 3), some (some 19), none, none, none, none, some (some 36), some (some 37), some (some 38), some (some 39), some (some 40)]), .inl (false, 12), .inl (false, 6), .inl (false, 6), .inl (false, 5), .inl (false, 5), .inr (9, [some (some 35), some (some 3), some (some 42), some (some 43), some (some 44), none, none, none, none]), .inl (false, 150), .inl (false, 150), .inl (false, 150), .inr (6, [some (some 35), some (some 46), some (some 47), some (some 48), none, none]), .inl (false, 608), .inl (false, 1938), .inl (false, 3), .inr (8, [some none, some none, some none])]
def ly22 : sw_L := [.inr (10, [some (some 1), some (some 3), some (some 11), some (some 19), some (some 24), some (some 29), some (some 32), some (some 35), some (some 41), some (some 45), some none, some none, some none, none, none]), .inr (7, [some (some 2), none, none, none, none, none, none, none, none]), .inl (false, 600), .inr (4, [none, none, none, none, none, some (some 4), some (some 5), some (some 6), some (some 7), some (some 8), some (some 9), some (some 10)]), .inl (false, 12), .inl (false, 12), .inl (false, 12), .inl (false, 6), .inl (false, 6), .inl (false, 5), .inl (false, 5), .inr (4, [none, none, none, none, none, some (some 12), some (some 13), some (some 14), some (some 15), some (some 16), some (some 17), some (some 18)]), .inl (false, 12), .inl (false, 12), .inl (false, 12), .inl (false, 6), .inl (false, 6), .inl (false, 5), .inl (false, 5), .inr (5, [some (some 20), some (some 21), some (some 22), some (some 23), none, none]), .inl (false, 150), .inl (false, 150), .inl (false, 7), .inl (false, 150), .inr (5, [some (some 25), some (some 26), some (some 27), some (some 28), none, none]), .inl (false, 150), .inl (false, 150), .inl (false, 7), .inl (false, 150), .inr (1, [none, some (some 30), some (some 31)]), .inl (false, 8), .inl (false, 8), .inr (1, [none, some (some 33), some (some 34)]), .inl (false, 8), .inl (false, 8), .inr (2, [some (some 3), some (some 19), none, none, none, none, some (some 36), some (some 37), some (some 38), some (some 39), some (some 40)]), .inl (false, 12), .inl (false, 6), .inl (false, 6), .inl (false, 5), .inl (false, 5), .inr (9, [some (some 35), some (some 3), some (some 42), some (some 43), some (some 44), none, none, none, none]), .inl (false, 150), .inl (false, 150), .inl (false, 150), .inr (6, [some (some 35), some (some 46), some (some 47), some (some 48), none, none]), .inl (false, 608), .inl (false, 1938), .inl (false, 3), .inr (8, [some (some 35), some (some 3), some (some 50)]), .inl (false, 8)]
def ly23 : sw_L := [.inr (10, [some (some 1), some (some 3), some (some 11), some (some 19), some (some 24), some (some 29), some (some 32), some (some 35), some (some 41), some (some 45), some (some 49), some none, some none, none, none]), .inr (7, [some (some 2), none, none, none, none, none, none, none, none]), .inl (false, 600), .inr (4, [none, none, none, none, none, some (some 4), some (some 5), some (some 6), some (some 7), some (some 8), some (some 9), some (some 10)]), .inl (false, 12), .inl (false, 12), .inl (false, 12), .inl (false, 6), .inl (false, 6), .inl (false, 5), .inl (false, 5), .inr (4, [none, none, none, none, none, some (some 12), some (some 13), some (some 14), some (some 15), some (some 16), some (some 17), some (some 18)]), .inl (false, 12), .inl (false, 12), .inl (false, 12), .inl (false, 6), .inl (false, 6), .inl (false, 5), .inl (false, 5), .inr (5, [some (some 20), some (some 21), some (some 22), some (some 23), none, none]), .inl (false, 150), .inl (false, 150), .inl (false, 7), .inl (false, 150), .inr (5, [some (some 25), some (some 26), some (some 27), some (some 28), none, none]), .inl (false, 150), .inl (false, 150), .inl (false, 7), .inl (false, 150), .inr (1, [none, some (some 30), some (some 31)]), .inl (false, 8), .inl (false, 8), .inr (1, [none, some (some 33), some (some 34)]), .inl (false, 8), .inl (false, 8), .inr (2, [some (some 3), some (some 19), none, none, none, none, some (some 36), some (some 37), some (some 38), some (some 39), some (some 40)]), .inl (false, 12), .inl (false, 6), .inl (false, 6), .inl (false, 5), .inl (false, 5), .inr (9, [some (some 35), some (some 3), some (some 42), some (some 43), some (some 44), none, none, none, none]), .inl (false, 150), .inl (false, 150), .inl (false, 150), .inr (6, [some (some 35), some (some 46), some (some 47), some (some 48), none, none]), .inl (false, 608), .inl (false, 1938), .inl (false, 3), .inr (8, [some (some 35), some (some 3), some (some 50)]), .inl (false, 8), .inr (3, [some none, some none, some none, some none, some none, none, none, none])]
def ly24 : sw_L := [.inr (10, [some (some 1), some (some 3), some (some 11), some (some 19), some (some 24), some (some 29), some (some 32), some (some 35), some (some 41), some (some 45), some (some 49), some none, some none, none, none]), .inr (7, [some (some 2), none, none, none, none, none, none, none, none]), .inl (false, 600), .inr (4, [none, none, none, none, none, some (some 4), some (some 5), some (some 6), some (some 7), some (some 8), some (some 9), some (some 10)]), .inl (false, 12), .inl (false, 12), .inl (false, 12), .inl (false, 6), .inl (false, 6), .inl (false, 5), .inl (false, 5), .inr (4, [none, none, none, none, none, some (some 12), some (some 13), some (some 14), some (some 15), some (some 16), some (some 17), some (some 18)]), .inl (false, 12), .inl (false, 12), .inl (false, 12), .inl (false, 6), .inl (false, 6), .inl (false, 5), .inl (false, 5), .inr (5, [some (some 20), some (some 21), some (some 22), some (some 23), none, none]), .inl (false, 150), .inl (false, 150), .inl (false, 7), .inl (false, 150), .inr (5, [some (some 25), some (some 26), some (some 27), some (some 28), none, none]), .inl (false, 150), .inl (false, 150), .inl (false, 7), .inl (false, 150), .inr (1, [none, some (some 30), some (some 31)]), .inl (false, 8), .inl (false, 8), .inr (1, [none, some (some 33), some (some 34)]), .inl (false, 8), .inl (false, 8), .inr (2, [some (some 3), some (some 19), none, none, none, none, some (some 36), some (some 37), some (some 38), some (some 39), some (some 40)]), .inl (false, 12), .inl (false, 6), .inl (false, 6), .inl (false, 5), .inl (false, 5), .inr (9, [some (some 35), some (some 3), some (some 42), some (some 43), some (some 44), none, none, none, none]), .inl (false, 150), .inl (false, 150), .inl (false, 150), .inr (6, [some (some 35), some (some 46), some (some 47), some (some 48), none, none]), .inl (false, 608), .inl (false, 1938), .inl (false, 3), .inr (8, [some (some 35), some (some 3), some (some 50)]), .inl (false, 8), .inr (3, [some (some 35), some (some 29), some (some 52), some (some 53), some (some 54), none, none, none]), .inl (false, 240), .inl (false, 240), .inl (false, 8)]
def ly25 : sw_L := [.inr (10, [some (some 1), some (some 3), some (some 11), some (some 19), some (some 24), some (some 29), some (some 32), some (some 35), some (some 41), some (some 45), some (some 49), some (some 51), some none, none, none]), .inr (7, [some (some 2), none, none, none, none, none, none, none, none]), .inl (false, 600), .inr (4, [none, none, none, none, none, some (some 4), some (some 5), some (some 6), some (some 7), some (some 8), some (some 9), some (some 10)]), .inl (false, 12), .inl (false, 12), .inl (false, 12), .inl (false, 6), .inl (false, 6), .inl (false, 5), .inl (false, 5), .inr (4, [none, none, none, none, none, some (some 12), some (some 13), some (some 14), some (some 15), some (some 16), some (some 17), some (some 18)]), .inl (false, 12), .inl (false, 12), .inl (false, 12), .inl (false, 6), .inl (false, 6), .inl (false, 5), .inl (false, 5), .inr (5, [some (some 20), some (some 21), some (some 22), some (some 23), none, none]), .inl (false, 150), .inl (false, 150), .inl (false, 7), .inl (false, 150), .inr (5, [some (some 25), some (some 26), some (some 27), some (some 28), none, none]), .inl (false, 150), .inl (false, 150), .inl (false, 7), .inl (false, 150), .inr (1, [none, some (some 30), some (some 31)]), .inl (false, 8), .inl (false, 8), .inr (1, [none, some (some 33), some (some 34)]), .inl (false, 8), .inl (false, 8), .inr (2, [some (some 3), some (some 19), none, none, none, none, some (some 36), some (some 37), some (some 38), some (some 39), some (some 40)]), .inl (false, 12), .inl (false, 6), .inl (false, 6), .inl (false, 5), .inl (false, 5), .inr (9, [some (some 35), some (some 3), some (some 42), some (some 43), some (some 44), none, none, none, none]), .inl (false, 150), .inl (false, 150), .inl (false, 150), .inr (6, [some (some 35), some (some 46), some (some 47), some (some 48), none, none]), .inl (false, 608), .inl (false, 1938), .inl (false, 3), .inr (8, [some (some 35), some (some 3), some (some 50)]), .inl (false, 8), .inr (3, [some (some 35), some (some 29), some (some 52), some (some 53), some (some 54), none, none, none]), .inl (false, 240), .inl (false, 240), .inl (false, 8), .inr (0, [some none, some none, some none, none])]
def ly26 : sw_L := [.inr (10, [some (some 1), some (some 3), some (some 11), some (some 19), some (some 24), some (some 29), some (some 32), some (some 35), some (some 41), some (some 45), some (some 49), some (some 51), some none, none, none]), .inr (7, [some (some 2), none, none, none, none, none, none, none, none]), .inl (false, 600), .inr (4, [none, none, none, none, none, some (some 4), some (some 5), some (some 6), some (some 7), some (some 8), some (some 9), some (some 10)]), .inl (false, 12), .inl (false, 12), .inl (false, 12), .inl (false, 6), .inl (false, 6), .inl (false, 5), .inl (false, 5), .inr (4, [none, none, none, none, none, some (some 12), some (some 13), some (some 14), some (some 15), some (some 16), some (some 17), some (some 18)]), .inl (false, 12), .inl (false, 12), .inl (false, 12), .inl (false, 6), .inl (false, 6), .inl (false, 5), .inl (false, 5), .inr (5, [some (some 20), some (some 21), some (some 22), some (some 23), none, none]), .inl (false, 150), .inl (false, 150), .inl (false, 7), .inl (false, 150), .inr (5, [some (some 25), some (some 26), some (some 27), some (some 28), none, none]), .inl (false, 150), .inl (false, 150), .inl (false, 7), .inl (false, 150), .inr (1, [none, some (some 30), some (some 31)]), .inl (false, 8), .inl (false, 8), .inr (1, [none, some (some 33), some (some 34)]), .inl (false, 8), .inl (false, 8), .inr (2, [some (some 3), some (some 19), none, none, none, none, some (some 36), some (some 37), some (some 38), some (some 39), some (some 40)]), .inl (false, 12), .inl (false, 6), .inl (false, 6), .inl (false, 5), .inl (false, 5), .inr (9, [some (some 35), some (some 3), some (some 42), some (some 43), some (some 44), none, none, none, none]), .inl (false, 150), .inl (false, 150), .inl (false, 150), .inr (6, [some (some 35), some (some 46), some (some 47), some (some 48), none, none]), .inl (false, 608), .inl (false, 1938), .inl (false, 3), .inr (8, [some (some 35), some (some 3), some (some 50)]), .inl (false, 8), .inr (3, [some (some 35), some (some 29), some (some 52), some (some 53), some (some 54), none, none, none]), .inl (false, 240), .inl (false, 240), .inl (false, 8), .inr (0, [some (some 35), some none, some (some 56), none]), .inl (false, 38), .inr (2, [some none, some none, none, none, none, none, some none, some none, some none, some none, some none])]
def ly27 : sw_L := [.inr (10, [some (some 1), some (some 3), some (some 11), some (some 19), some (some 24), some (some 29), some (some 32), some (some 35), some (some 41), some (some 45), some (some 49), some (some 51), some none, none, none]), .inr (7, [some (some 2), none, none, none, none, none, none, none, none]), .inl (false, 600), .inr (4, [none, none, none, none, none, some (some 4), some (some 5), some (some 6), some (some 7), some (some 8), some (some 9), some (some 10)]), .inl (false, 12), .inl (false, 12), .inl (false, 12), .inl (false, 6), .inl (false, 6), .inl (false, 5), .inl (false, 5), .inr (4, [none, none, none, none, none, some (some 12), some (some 13), some (some 14), some (some 15), some (some 16), some (some 17), some (some 18)]), .inl (false, 12), .inl (false, 12), .inl (false, 12), .inl (false, 6), .inl (false, 6), .inl (false, 5), .inl (false, 5), .inr (5, [some (some 20), some (some 21), some (some 22), some (some 23), none, none]), .inl (false, 150), .inl (false, 150), .inl (false, 7), .inl (false, 150), .inr (5, [some (some 25), some (some 26), some (some 27), some (some 28), none, none]), .inl (false, 150), .inl (false, 150), .inl (false, 7), .inl (false, 150), .inr (1, [none, some (some 30), some (some 31)]), .inl (false, 8), .inl (false, 8), .inr (1, [none, some (some 33), some (some 34)]), .inl (false, 8), .inl (false, 8), .inr (2, [some (some 3), some (some 19), none, none, none, none, some (some 36), some (some 37), some (some 38), some (some 39), some (some 40)]), .inl (false, 12), .inl (false, 6), .inl (false, 6), .inl (false, 5), .inl (false, 5), .inr (9, [some (some 35), some (some 3), some (some 42), some (some 43), some (some 44), none, none, none, none]), .inl (false, 150), .inl (false, 150), .inl (false, 150), .inr (6, [some (some 35), some (some 46), some (some 47), some (some 48), none, none]), .inl (false, 608), .inl (false, 1938), .inl (false, 3), .inr (8, [some (some 35), some (some 3), some (some 50)]), .inl (false, 8), .inr (3, [some (some 35), some (some 29), some (some 52), some (some 53), some (some 54), none, none, none]), .inl (false, 240), .inl (false, 240), .inl (false, 8), .inr (0, [some (some 35), some none, some (some 56), none]), .inl (false, 38), .inr (2, [some (some 3), some (some 19), none, none, none, none, some (some 58), some (some 59), some (some 60), some (some 61), some (some 62)]), .inl (false, 12), .inl (false, 6), .inl (false, 6), .inl (false, 5), .inl (false, 5)]
def ly28 : sw_L := [.inr (10, [some (some 1), some (some 3), some (some 11), some (some 19), some (some 24), some (some 29), some (some 32), some (some 35), some (some 41), some (some 45), some (some 49), some (some 51), some none, none, none]), .inr (7, [some (some 2), none, none, none, none, none, none, none, none]), .inl (false, 600), .inr (4, [none, none, none, none, none, some (some 4), some (some 5), some (some 6), some (some 7), some (some 8), some (some 9), some (some 10)]), .inl (false, 12), .inl (false, 12), .inl (false, 12), .inl (false, 6), .inl (false, 6), .inl (false, 5), .inl (false, 5), .inr (4, [none, none, none, none, none, some (some 12), some (some 13), some (some 14), some (some 15), some (some 16), some (some 17), some (some 18)]), .inl (false, 12), .inl (false, 12), .inl (false, 12), .inl (false, 6), .inl (false, 6), .inl (false, 5), .inl (false, 5), .inr (5, [some (some 20), some (some 21), some (some 22), some (some 23), none, none]), .inl (false, 150), .inl (false, 150), .inl (false, 7), .inl (false, 150), .inr (5, [some (some 25), some (some 26), some (some 27), some (some 28), none, none]), .inl (false, 150), .inl (false, 150), .inl (false, 7), .inl (false, 150), .inr (1, [none, some (some 30), some (some 31)]), .inl (false, 8), .inl (false, 8), .inr (1, [none, some (some 33), some (some 34)]), .inl (false, 8), .inl (false, 8), .inr (2, [some (some 3), some (some 19), none, none, none, none, some (some 36), some (some 37), some (some 38), some (some 39), some (some 40)]), .inl (false, 12), .inl (false, 6), .inl (false, 6), .inl (false, 5), .inl (false, 5), .inr (9, [some (some 35), some (some 3), some (some 42), some (some 43), some (some 44), none, none, none, none]), .inl (false, 150), .inl (false, 150), .inl (false, 150), .inr (6, [some (some 35), some (some 46), some (some 47), some (some 48), none, none]), .inl (false, 608), .inl (false, 1938), .inl (false, 3), .inr (8, [some (some 35), some (some 3), some (some 50)]), .inl (false, 8), .inr (3, [some (some 35), some (some 29), some (some 52), some (some 53), some (some 54), none, none, none]), .inl (false, 240), .inl (false, 240), .inl (false, 8), .inr (0, [some (some 35), some (some 57), some (some 56), none]), .inl (false, 38), .inr (2, [some (some 3), some (some 19), none, none, none, none, some (some 58), some (some 59), some (some 60), some (some 61), some (some 62)]), .inl (false, 12), .inl (false, 6), .inl (false, 6), .inl (false, 5), .inl (false, 5)]
def ly29 : sw_L := [.inr (10, [some (some 1), some (some 3), some (some 11), some (some 19), some (some 24), some (some 29), some (some 32), some (some 35), some (some 41), some (some 45), some (some 49), some (some 51), some (some 55), none, none]), .inr (7, [some (some 2), none, none, none, none, none, none, none, none]), .inl (false, 600), .inr (4, [none, none, none, none, none, some (some 4), some (some 5), some (some 6), some (some 7), some (some 8), some (some 9), some (some 10)]), .inl (false, 12), .inl (false, 12), .inl (false, 12), .inl (false, 6), .inl (false, 6), .inl (false, 5), .inl (false, 5), .inr (4, [none, none, none, none, none, some (some 12), some (some 13), some (some 14), some (some 15), some (some 16), some (some 17), some (some 18)]), .inl (false, 12), .inl (false, 12), .inl (false, 12), .inl (false, 6), .inl (false, 6), .inl (false, 5), .inl (false, 5), .inr (5, [some (some 20), some (some 21), some (some 22), some (some 23), none, none]), .inl (false, 150), .inl (false, 150), .inl (false, 7), .inl (false, 150), .inr (5, [some (some 25), some (some 26), some (some 27), some (some 28), none, none]), .inl (false, 150), .inl (false, 150), .inl (false, 7), .inl (false, 150), .inr (1, [none, some (some 30), some (some 31)]), .inl (false, 8), .inl (false, 8), .inr (1, [none, some (some 33), some (some 34)]), .inl (false, 8), .inl (false, 8), .inr (2, [some (some 3), some (some 19), none, none, none, none, some (some 36), some (some 37), some (some 38), some (some 39), some (some 40)]), .inl (false, 12), .inl (false, 6), .inl (false, 6), .inl (false, 5), .inl (false, 5), .inr (9, [some (some 35), some (some 3), some (some 42), some (some 43), some (some 44), none, none, none, none]), .inl (false, 150), .inl (false, 150), .inl (false, 150), .inr (6, [some (some 35), some (some 46), some (some 47), some (some 48), none, none]), .inl (false, 608), .inl (false, 1938), .inl (false, 3), .inr (8, [some (some 35), some (some 3), some (some 50)]), .inl (false, 8), .inr (3, [some (some 35), some (some 29), some (some 52), some (some 53), some (some 54), none, none, none]), .inl (false, 240), .inl (false, 240), .inl (false, 8), .inr (0, [some (some 35), some (some 57), some (some 56), none]), .inl (false, 38), .inr (2, [some (some 3), some (some 19), none, none, none, none, some (some 58), some (some 59), some (some 60), some (some 61), some (some 62)]), .inl (false, 12), .inl (false, 6), .inl (false, 6), .inl (false, 5), .inl (false, 5)]
def ly30 : sw_L := [.inr (10, [some (some 1), some (some 3), some (some 11), some (some 19), some (some 24), some (some 29), some (some 32), some (some 35), some (some 41), some (some 45), some (some 49), some (some 51), some (some 55), none, none]), .inr (7, [some (some 2), none, none, none, none, none, none, none, none]), .inl (false, 600), .inr (4, [none, none, none, none, none, some (some 4), some (some 5), some (some 6), some (some 7), some (some 8), some (some 9), some (some 10)]), .inl (false, 12), .inl (false, 12), .inl (false, 12), .inl (false, 6), .inl (false, 6), .inl (false, 5), .inl (false, 5), .inr (4, [none, none, none, none, none, some (some 12), some (some 13), some (some 14), some (some 15), some (some 16), some (some 17), some (some 18)]), .inl (false, 12), .inl (false, 12), .inl (false, 12), .inl (false, 6), .inl (false, 6), .inl (false, 5), .inl (false, 5), .inr (5, [some (some 20), some (some 21), some (some 22), some (some 23), none, none]), .inl (false, 150), .inl (false, 150), .inl (false, 7), .inl (false, 150), .inr (5, [some (some 25), some (some 26), some (some 27), some (some 28), none, none]), .inl (false, 150), .inl (false, 150), .inl (false, 7), .inl (false, 150), .inr (1, [none, some (some 30), some (some 31)]), .inl (false, 8), .inl (false, 8), .inr (1, [none, some (some 33), some (some 34)]), .inl (false, 8), .inl (false, 8), .inr (2, [some (some 3), some (some 19), none, none, none, none, some (some 36), some (some 37), some (some 38), some (some 39), some (some 40)]), .inl (false, 12), .inl (false, 6), .inl (false, 6), .inl (false, 5), .inl (false, 5), .inr (9, [some (some 35), some (some 3), some (some 42), some (some 43), some (some 44), none, none, none, none]), .inl (false, 150), .inl (false, 150), .inl (false, 150), .inr (6, [some (some 35), some (some 46), some (some 47), some (some 48), none, none]), .inl (false, 608), .inl (false, 1938), .inl (false, 3), .inr (8, [some (some 35), some (some 3), some (some 50)]), .inl (false, 8), .inr (3, [some (some 35), some (some 29), some (some 52), some (some 53), some (some 54), none, none, none]), .inl (false, 240), .inl (false, 240), .inl (false, 8), .inr (0, [some (some 35), some (some 57), some (some 56), none]), .inl (false, 38), .inr (2, [some (some 3), some (some 19), none, none, none, none, some (some 58), some (some 59), some (some 60), some (some 61), some (some 62)]), .inl (false, 12), .inl (false, 6), .inl (false, 6), .inl (false, 5), .inl (false, 5), .inr (11, [none, some none, none, none, none, none, none, none, none, some none, some none, some none, some none, some none, some none, some none, none, none, none, none, none, none, none, none, none, some none, some none, some none, some none, some none, none, none, some none, some none, some none, none, none, none, none, none, none, some none, some none, some none, some none, some none, none, some none, none, some none, none])]
def ly31 : sw_L := [.inr (10, [some (some 1), some (some 3), some (some 11), some (some 19), some (some 24), some (some 29), some (some 32), some (some 35), some (some 41), some (some 45), some (some 49), some (some 51), some (some 55), none, none]), .inr (7, [some (some 2), none, none, none, none, none, none, none, none]), .inl (false, 600), .inr (4, [none, none, none, none, none, some (some 4), some (some 5), some (some 6), some (some 7), some (some 8), some (some 9), some (some 10)]), .inl (false, 12), .inl (false, 12), .inl (false, 12), .inl (false, 6), .inl (false, 6), .inl (false, 5), .inl (false, 5), .inr (4, [none, none, none, none, none, some (some 12), some (some 13), some (some 14), some (some 15), some (some 16), some (some 17), some (some 18)]), .inl (false, 12), .inl (false, 12), .inl (false, 12), .inl (false, 6), .inl (false, 6), .inl (false, 5), .inl (false, 5), .inr (5, [some (some 20), some (some 21), some (some 22), some (some 23), none, none]), .inl (false, 150), .inl (false, 150), .inl (false, 7), .inl (false, 150), .inr (5, [some (some 25), some (some 26), some (some 27), some (some 28), none, none]), .inl (false, 150), .inl (false, 150), .inl (false, 7), .inl (false, 150), .inr (1, [none, some (some 30), some (some 31)]), .inl (false, 8), .inl (false, 8), .inr (1, [none, some (some 33), some (some 34)]), .inl (false, 8), .inl (false, 8), .inr (2, [some (some 3), some (some 19), none, none, none, none, some (some 36), some (some 37), some (some 38), some (some 39), some (some 40)]), .inl (false, 12), .inl (false, 6), .inl (false, 6), .inl (false, 5), .inl (false, 5), .inr (9, [some (some 35), some (some 3), some (some 42), some (some 43), some (some 44), none, none, none, none]), .inl (false, 150), .inl (false, 150), .inl (false, 150), .inr (6, [some (some 35), some (some 46), some (some 47), some (some 48), none, none]), .inl (false, 608), .inl (false, 1938), .inl (false, 3), .inr (8, [some (some 35), some (some 3), some (some 50)]), .inl (false, 8), .inr (3, [some (some 35), some (some 29), some (some 52), some (some 53), some (some 54), none, none, none]), .inl (false, 240), .inl (false, 240), .inl (false, 8), .inr (0, [some (some 35), some (some 57), some (some 56), none]), .inl (false, 38), .inr (2, [some (some 3), some (some 19), none, none, none, none, some (some 58), some (some 59), some (some 60), some (some 61), some (some 62)]), .inl (false, 12), .inl (false, 6), .inl (false, 6), .inl (false, 5), .inl (false, 5), .inr (11, [none, some (some 64), none, none, none, none, none, none, none, some (some 65), some (some 66), some (some 67), some (some 68), some (some 69), some (some 70), some (some 71), none, none, none, none, none, none, none, none, none, some (some 72), some (some 73), some (some 74), some (some 75), some (some 76), none, none, some (some 77), some (some 78), some (some 79), none, none, none, none, none, none, some (some 80), some (some 81), some (some 82), some (some 83), some (some 84), none, some (some 85), none, some (some 86), none]), .inl (false, 2), .inl (false, 600), .inl (false, 36), .inl (false, 12), .inl (false, 10), .inl (false, 36), .inl (false, 12), .inl (false, 10), .inl (false, 150), .inl (false, 150), .inl (false, 150), .inl (false, 150), .inl (false, 150), .inl (false, 7), .inl (false, 150), .inl (false, 150), .inl (false, 49), .inl (false, 49), .inl (false, 784), .inl (false, 41), .inl (false, 41), .inl (false, 533), .inl (false, 2502)]
theorem oi_i : Cond.instanceMethod Lib.objectInit ∈ gtb := (gtb_of (tbm_1 (List.mem_of_getElem? (i := 31) rfl)) rfl)
theorem oi_c : Cond.code Lib.objectInit ⟨#[0xb1]⟩ 1 none ∈ gtb := (gtb_of (tbm_1 (List.mem_of_getElem? (i := 32) rfl)) rfl)
theorem sw_tyR {ci : Nat} {C0 : String} {T0 : u_T} {N0 k : Nat} {ty0 : Nat → FieldType} (h0 : sw_C ci C0 T0 N0 ty0) (hk : k < N0) (h : ∀ a, narrow (ty0 k) (.ref a) = .ref a ∧ fits (ty0 k) (.ref a) = true) : ∀ (C : String) (T : u_T) (N : Nat) (ty : Nat → FieldType), sw_C ci C T N ty → ∀ a, narrow (ty k) (.ref a) = .ref a ∧ fits (ty k) (.ref a) = true := by
  intro C T N ty hC a
  have e := Option.some.inj (h0.1.symm.trans hC.1)
  cases e
  have e2 := Option.some.inj ((h0.2.2.1 k hk).symm.trans (hC.2.2.1 k hk))
  rw [← e2]
  exact h a
theorem df_0 : ∀ j, j < 4 → defaultValue (tyX0 j) = vp_V (sw_f (fun _ => 0) (fun _ => 0) 0 [some none, some none, some none, none]) j := fun j hj => co_dec (P := fun j => defaultValue (tyX0 j) = vp_V (sw_f (fun _ => 0) (fun _ => 0) 0 [some none, some none, some none, none]) j) (N := 4) (by decide +kernel) hj
theorem df_1 : ∀ j, j < 3 → defaultValue (tyX1 j) = vp_V (sw_f (fun _ => 0) (fun _ => 0) 0 [none, some none, some none]) j := fun j hj => co_dec (P := fun j => defaultValue (tyX1 j) = vp_V (sw_f (fun _ => 0) (fun _ => 0) 0 [none, some none, some none]) j) (N := 3) (by decide +kernel) hj
theorem df_2 : ∀ j, j < 11 → defaultValue (tyX2 j) = vp_V (sw_f (fun _ => 0) (fun _ => 0) 0 [some none, some none, none, none, none, none, some none, some none, some none, some none, some none]) j := fun j hj => co_dec (P := fun j => defaultValue (tyX2 j) = vp_V (sw_f (fun _ => 0) (fun _ => 0) 0 [some none, some none, none, none, none, none, some none, some none, some none, some none, some none]) j) (N := 11) (by decide +kernel) hj
theorem df_3 : ∀ j, j < 8 → defaultValue (tyX3 j) = vp_V (sw_f (fun _ => 0) (fun _ => 0) 0 [some none, some none, some none, some none, some none, none, none, none]) j := fun j hj => co_dec (P := fun j => defaultValue (tyX3 j) = vp_V (sw_f (fun _ => 0) (fun _ => 0) 0 [some none, some none, some none, some none, some none, none, none, none]) j) (N := 8) (by decide +kernel) hj
theorem df_4 : ∀ j, j < 12 → defaultValue (tyX4 j) = vp_V (sw_f (fun _ => 0) (fun _ => 0) 0 [none, none, none, none, none, some none, some none, some none, some none, some none, some none, some none]) j := fun j hj => co_dec (P := fun j => defaultValue (tyX4 j) = vp_V (sw_f (fun _ => 0) (fun _ => 0) 0 [none, none, none, none, none, some none, some none, some none, some none, some none, some none, some none]) j) (N := 12) (by decide +kernel) hj
theorem df_5 : ∀ j, j < 6 → defaultValue (tyX5 j) = vp_V (sw_f (fun _ => 0) (fun _ => 0) 0 [some none, some none, some none, some none, none, none]) j := fun j hj => co_dec (P := fun j => defaultValue (tyX5 j) = vp_V (sw_f (fun _ => 0) (fun _ => 0) 0 [some none, some none, some none, some none, none, none]) j) (N := 6) (by decide +kernel) hj
theorem df_6 : ∀ j, j < 6 → defaultValue (tyX6 j) = vp_V (sw_f (fun _ => 0) (fun _ => 0) 0 [some none, some none, some none, some none, none, none]) j := fun j hj => co_dec (P := fun j => defaultValue (tyX6 j) = vp_V (sw_f (fun _ => 0) (fun _ => 0) 0 [some none, some none, some none, some none, none, none]) j) (N := 6) (by decide +kernel) hj
theorem df_7 : ∀ j, j < 9 → defaultValue (tyX7 j) = vp_V (sw_f (fun _ => 0) (fun _ => 0) 0 [some none, none, none, none, none, none, none, none, none]) j := fun j hj => co_dec (P := fun j => defaultValue (tyX7 j) = vp_V (sw_f (fun _ => 0) (fun _ => 0) 0 [some none, none, none, none, none, none, none, none, none]) j) (N := 9) (by decide +kernel) hj
theorem df_8 : ∀ j, j < 3 → defaultValue (tyX8 j) = vp_V (sw_f (fun _ => 0) (fun _ => 0) 0 [some none, some none, some none]) j := fun j hj => co_dec (P := fun j => defaultValue (tyX8 j) = vp_V (sw_f (fun _ => 0) (fun _ => 0) 0 [some none, some none, some none]) j) (N := 3) (by decide +kernel) hj
theorem df_9 : ∀ j, j < 9 → defaultValue (tyX9 j) = vp_V (sw_f (fun _ => 0) (fun _ => 0) 0 [some none, some none, some none, some none, some none, none, none, none, none]) j := fun j hj => co_dec (P := fun j => defaultValue (tyX9 j) = vp_V (sw_f (fun _ => 0) (fun _ => 0) 0 [some none, some none, some none, some none, some none, none, none, none, none]) j) (N := 9) (by decide +kernel) hj
theorem df_10 : ∀ j, j < 15 → defaultValue (tyX10 j) = vp_V (sw_f (fun _ => 0) (fun _ => 0) 0 [some none, some none, some none, some none, some none, some none, some none, some none, some none, some none, some none, some none, some none, none, none]) j := fun j hj => co_dec (P := fun j => defaultValue (tyX10 j) = vp_V (sw_f (fun _ => 0) (fun _ => 0) 0 [some none, some none, some none, some none, some none, some none, some none, some none, some none, some none, some none, some none, some none, none, none]) j) (N := 15) (by decide +kernel) hj
theorem df_11 : ∀ j, j < 51 → defaultValue (tyX11 j) = vp_V (sw_f (fun _ => 0) (fun _ => 0) 0 [none, some none, none, none, none, none, none, none, none, some none, some none, some none, some none, some none, some none, some none, none, none, none, none, none, none, none, none, none, some none, some none, some none, some none, some none, none, none, some none, some none, some none, none, none, none, none, none, none, some none, some none, some none, some none, some none, none, some none, none, some none, none]) j := fun j hj => co_dec (P := fun j => defaultValue (tyX11 j) = vp_V (sw_f (fun _ => 0) (fun _ => 0) 0 [none, some none, none, none, none, none, none, none, none, some none, some none, some none, some none, some none, some none, some none, none, none, none, none, none, none, none, none, none, some none, some none, some none, some none, some none, none, none, some none, some none, some none, none, none, none, none, none, none, some none, some none, some none, some none, some none, none, some none, none, some none, none]) j) (N := 51) (by decide +kernel) hj
theorem ks_608 : (Int16.ofInt (608)).toInt32 = (608 : Int32) := by decide
theorem ks_1938 : (Int16.ofInt (1938)).toInt32 = (1938 : Int32) := by decide
theorem ks_2502 : (Int16.ofInt (2502)).toInt32 = (2502 : Int32) := by decide
def f_law_add_ly8 (N : Nat)  (μ : sw_M) (a1 : Int32) (a2 : Int32) : Option (Int32 × sw_M) :=
  Option.bind (f_sx_put N 20 150 μ (μ 19 4) a1) (fun r1 =>
    Option.bind (f_sx_put N 21 150 r1 (r1 19 4) a2) (fun r3 =>
      wb (wr r3 19 4 (if 150 < ((r3 19 4) + 1) then 150 else ((r3 19 4) + 1))) (fun μ5 =>
        some (1, μ5))))
set_option maxRecDepth 100000 in
set_option maxHeartbeats 4000000 in
theorem ok_f_law_add_ly8 {G : sw_G} {ad : Nat → Nat} {ν : sw_N}   {N : Nat} {o : Int32 × sw_M} (g : sw_ok G cX5_add "DeadWires$Law" (some .boolean) 2 0 0 ad) (hm : G.2.2.1.2.1.maxLocals = 3)  (μ : sw_M) (ho : sw_out G 0 0 (fun a => a = ad) (.inl (some (.int o.1))) ly8 o.2 ν) (a1 : Int32) (a2 : Int32) (h : f_law_add_ly8 N  μ a1 a2 = some o) : SW G ad ly8 ν 0 0 0 [some (.ref 19), some (.int a1), some (.int a2)] [] μ := by
  unfold f_law_add_ly8 at h
  refine SW.aload_n (pc := 0) g (dt dt_X5_add 0 rfl) rfl ?_
  refine SW.getR (pc := 1) g (dt dt_X5_add 1 rfl) fl_X5_9 rfl rfl ?_
  refine SW.aload_n (pc := 4) g (dt dt_X5_add 2 rfl) rfl ?_
  refine SW.getI (pc := 5) g (dt dt_X5_add 3 rfl) fl_X5_27 rfl rfl ?_
  refine SW.iload_n (pc := 8) g (dt dt_X5_add 4 rfl) rfl ?_
  obtain ⟨r1, h2, h⟩ := bindI h
  refine SW.callSNv (pc := 9) g (dt dt_X5_add 5 rfl) (mt_f_sx_put _ _ _ _ ad ν ly8 20 150 rfl N μ (μ 19 4) a1 r1 h2) me_X10_put ms_X10_put mn_X5_41 rfl (Nat.le_of_ble_eq_true rfl) (Nat.le_of_ble_eq_true rfl) (Nat.le_of_ble_eq_true rfl) (Nat.le_of_ble_eq_true rfl) rfl ?_
  refine SW.aload_n (pc := 12) g (dt dt_X5_add 6 rfl) rfl ?_
  refine SW.getR (pc := 13) g (dt dt_X5_add 7 rfl) fl_X5_15 rfl rfl ?_
  refine SW.aload_n (pc := 16) g (dt dt_X5_add 8 rfl) rfl ?_
  refine SW.getI (pc := 17) g (dt dt_X5_add 9 rfl) fl_X5_27 rfl rfl ?_
  refine SW.iload_n (pc := 20) g (dt dt_X5_add 10 rfl) rfl ?_
  obtain ⟨r3, h4, h⟩ := bindI h
  refine SW.callSNv (pc := 21) g (dt dt_X5_add 11 rfl) (mt_f_sx_put _ _ _ _ ad ν ly8 21 150 rfl N r1 (r1 19 4) a2 r3 h4) me_X10_put ms_X10_put mn_X5_41 rfl (Nat.le_of_ble_eq_true rfl) (Nat.le_of_ble_eq_true rfl) (Nat.le_of_ble_eq_true rfl) (Nat.le_of_ble_eq_true rfl) rfl ?_
  refine SW.aload_n (pc := 24) g (dt dt_X5_add 12 rfl) rfl ?_
  refine SW.aload_n (pc := 25) g (dt dt_X5_add 13 rfl) rfl ?_
  refine SW.getI (pc := 26) g (dt dt_X5_add 14 rfl) fl_X5_27 rfl rfl ?_
  refine SW.iconst (pc := 29) (v := 1) g (dt dt_X5_add 15 rfl) ki_1 ?_
  refine SW.iadd (pc := 30) g (dt dt_X5_add 16 rfl) ?_
  refine SW.sipush (pc := 31) (v := 150) g (dt dt_X5_add 17 rfl) ks_150 ?_
  refine SW.mmin (pc := 34) g (dt dt_X5_add 18 rfl) ml_X5_45 ms_J9_min_7cf53 mt_init me_J9_min_7cf53.1 (Nat.le_of_ble_eq_true rfl) (Nat.le_of_ble_eq_true rfl) (Nat.le_of_ble_eq_true rfl) (Nat.le_of_ble_eq_true rfl) ?_
  refine SW.putI (pc := 37) g (dt dt_X5_add 19 rfl) fl_X5_27 rfl rfl ?_
  refine SW.genM h (fun μ5 h => ?_)
  refine SW.iconst (pc := 40) (v := 1) g (dt dt_X5_add 20 rfl) ki_1 ?_
  exact SW.zreturn (pc := 41) g (leafW h ho) rfl (Nat.le_of_ble_eq_true rfl) (Nat.le_of_ble_eq_true rfl) (by decide) (dt dt_X5_add 21 rfl)
set_option maxRecDepth 100000 in
set_option maxHeartbeats 4000000 in
theorem mt_f_law_add_ly8 (l : Launch) (D : va_G) (cI cL : ClassId) (ad : Nat → Nat) (ν : sw_N)    (N : Nat) (μ : sw_M) (a1 : Int32) (a2 : Int32) (o : Int32 × sw_M) (h : f_law_add_ly8 N  μ a1 a2 = some o) : MetR l D cI cL yX5_add cX5_add 3 (some .boolean) 2 0 0 (fun a => a = ad) ad [.ref 19, .int a1, .int a2] ly8 μ ν (some (.int o.1)) ly8 o.2 ν :=
  MetR.of (n := 0) rfl (Nat.le_of_ble_eq_true rfl) (fun G g ho hm _ _ => ok_f_law_add_ly8  g hm  μ ho a1 a2 h)
def f_law_clear_ly8 (N : Nat)  (μ : sw_M)  : Option (sw_M) :=
  wb (wr μ 19 4 0) (fun μ1 =>
    Option.bind (f_law_add_ly8 N  μ1 1 1) (fun r2 =>
      Option.bind (f_law_add_ly8 N  r2.2 2 0) (fun r4 =>
        Option.bind (f_law_add_ly8 N  r4.2 1 4) (fun r6 =>
          Option.bind (f_law_add_ly8 N  r6.2 47 0) (fun r8 =>
            Option.bind (f_law_add_ly8 N  r8.2 43 0) (fun r10 =>
              some r10.2))))))
set_option maxRecDepth 100000 in
set_option maxHeartbeats 4000000 in
theorem ok_f_law_clear_ly8 {G : sw_G} {ad : Nat → Nat} {ν : sw_N}   {N : Nat} {o : sw_M} (g : sw_ok G cX5_clear "DeadWires$Law" none 3 0 0 ad) (hm : G.2.2.1.2.1.maxLocals = 1)  (μ : sw_M) (ho : sw_out G 0 0 (fun a => a = ad) (.inl none) ly8 o ν)  (h : f_law_clear_ly8 N  μ  = some o) : SW G ad ly8 ν 0 0 0 [some (.ref 19)] [] μ := by
  unfold f_law_clear_ly8 at h
  refine SW.aload_n (pc := 0) g (dt dt_X5_clear 0 rfl) rfl ?_
  refine SW.iconst (pc := 1) (v := 0) g (dt dt_X5_clear 1 rfl) ki_0 ?_
  refine SW.putI (pc := 2) g (dt dt_X5_clear 2 rfl) fl_X5_27 rfl rfl ?_
  refine SW.genM h (fun μ1 h => ?_)
  refine SW.aload_n (pc := 5) g (dt dt_X5_clear 3 rfl) rfl ?_
  refine SW.iconst (pc := 6) (v := 1) g (dt dt_X5_clear 4 rfl) ki_1 ?_
  refine SW.iconst (pc := 7) (v := 1) g (dt dt_X5_clear 5 rfl) ki_1 ?_
  obtain ⟨r2, h3, h⟩ := bindI h
  refine SW.callVi (pc := 8) g (dt dt_X5_clear 6 rfl) (mt_f_law_add_ly8 _ _ _ _ ad ν   N μ1 1 1 r2 h3) me_X5_add mv_X5_add ml_X5_31 rfl rfl rfl (Nat.le_of_ble_eq_true rfl) (Nat.le_of_ble_eq_true rfl) (Nat.le_of_ble_eq_true rfl) (Nat.le_of_ble_eq_true rfl) rfl ?_
  refine SW.pop (pc := 11) g (dt dt_X5_clear 7 rfl) rfl ?_
  refine SW.aload_n (pc := 12) g (dt dt_X5_clear 8 rfl) rfl ?_
  refine SW.iconst (pc := 13) (v := 2) g (dt dt_X5_clear 9 rfl) ki_2 ?_
  refine SW.iconst (pc := 14) (v := 0) g (dt dt_X5_clear 10 rfl) ki_0 ?_
  obtain ⟨r4, h5, h⟩ := bindI h
  refine SW.callVi (pc := 15) g (dt dt_X5_clear 11 rfl) (mt_f_law_add_ly8 _ _ _ _ ad ν   N r2.2 2 0 r4 h5) me_X5_add mv_X5_add ml_X5_31 rfl rfl rfl (Nat.le_of_ble_eq_true rfl) (Nat.le_of_ble_eq_true rfl) (Nat.le_of_ble_eq_true rfl) (Nat.le_of_ble_eq_true rfl) rfl ?_
  refine SW.pop (pc := 18) g (dt dt_X5_clear 12 rfl) rfl ?_
  refine SW.aload_n (pc := 19) g (dt dt_X5_clear 13 rfl) rfl ?_
  refine SW.iconst (pc := 20) (v := 1) g (dt dt_X5_clear 14 rfl) ki_1 ?_
  refine SW.iconst (pc := 21) (v := 4) g (dt dt_X5_clear 15 rfl) ki_4 ?_
  obtain ⟨r6, h7, h⟩ := bindI h
  refine SW.callVi (pc := 22) g (dt dt_X5_clear 16 rfl) (mt_f_law_add_ly8 _ _ _ _ ad ν   N r4.2 1 4 r6 h7) me_X5_add mv_X5_add ml_X5_31 rfl rfl rfl (Nat.le_of_ble_eq_true rfl) (Nat.le_of_ble_eq_true rfl) (Nat.le_of_ble_eq_true rfl) (Nat.le_of_ble_eq_true rfl) rfl ?_
  refine SW.pop (pc := 25) g (dt dt_X5_clear 17 rfl) rfl ?_
  refine SW.aload_n (pc := 26) g (dt dt_X5_clear 18 rfl) rfl ?_
  refine SW.bipush (pc := 27) (v := 47) g (dt dt_X5_clear 19 rfl) kb_47 ?_
  refine SW.iconst (pc := 29) (v := 0) g (dt dt_X5_clear 20 rfl) ki_0 ?_
  obtain ⟨r8, h9, h⟩ := bindI h
  refine SW.callVi (pc := 30) g (dt dt_X5_clear 21 rfl) (mt_f_law_add_ly8 _ _ _ _ ad ν   N r6.2 47 0 r8 h9) me_X5_add mv_X5_add ml_X5_31 rfl rfl rfl (Nat.le_of_ble_eq_true rfl) (Nat.le_of_ble_eq_true rfl) (Nat.le_of_ble_eq_true rfl) (Nat.le_of_ble_eq_true rfl) rfl ?_
  refine SW.pop (pc := 33) g (dt dt_X5_clear 22 rfl) rfl ?_
  refine SW.aload_n (pc := 34) g (dt dt_X5_clear 23 rfl) rfl ?_
  refine SW.bipush (pc := 35) (v := 43) g (dt dt_X5_clear 24 rfl) kb_43 ?_
  refine SW.iconst (pc := 37) (v := 0) g (dt dt_X5_clear 25 rfl) ki_0 ?_
  obtain ⟨r10, h11, h⟩ := bindI h
  refine SW.callVi (pc := 38) g (dt dt_X5_clear 26 rfl) (mt_f_law_add_ly8 _ _ _ _ ad ν   N r8.2 43 0 r10 h11) me_X5_add mv_X5_add ml_X5_31 rfl rfl rfl (Nat.le_of_ble_eq_true rfl) (Nat.le_of_ble_eq_true rfl) (Nat.le_of_ble_eq_true rfl) (Nat.le_of_ble_eq_true rfl) rfl ?_
  refine SW.pop (pc := 41) g (dt dt_X5_clear 27 rfl) rfl ?_
  exact SW.vreturn (pc := 42) g (leafV h ho) rfl (Nat.le_of_ble_eq_true rfl) (Nat.le_of_ble_eq_true rfl) (dt dt_X5_clear 28 rfl)
set_option maxRecDepth 100000 in
set_option maxHeartbeats 4000000 in
theorem mt_f_law_clear_ly8 (l : Launch) (D : va_G) (cI cL : ClassId) (ad : Nat → Nat) (ν : sw_N)    (N : Nat) (μ : sw_M)  (o : sw_M) (h : f_law_clear_ly8 N  μ  = some o) : MetR l D cI cL yX5_clear cX5_clear 1 none 3 0 0 (fun a => a = ad) ad [.ref 19] ly8 μ ν none ly8 o ν :=
  MetR.of (n := 0) rfl (Nat.le_of_ble_eq_true rfl) (fun G g ho hm _ _ => ok_f_law_clear_ly8  g hm  μ ho  h)
def f_lawR_add_ly10 (N : Nat)  (μ : sw_M) (a1 : Int32) (a2 : Int32) : Option (Int32 × sw_M) :=
  Option.bind (f_sx_put N 25 150 μ (μ 24 4) a1) (fun r1 =>
    Option.bind (f_sx_put N 26 150 r1 (r1 24 4) a2) (fun r3 =>
      wb (wr r3 24 4 (if 150 < ((r3 24 4) + 1) then 150 else ((r3 24 4) + 1))) (fun μ5 =>
        some (1, μ5))))
set_option maxRecDepth 100000 in
set_option maxHeartbeats 4000000 in
theorem ok_f_lawR_add_ly10 {G : sw_G} {ad : Nat → Nat} {ν : sw_N}   {N : Nat} {o : Int32 × sw_M} (g : sw_ok G cX5_add "DeadWires$Law" (some .boolean) 2 0 0 ad) (hm : G.2.2.1.2.1.maxLocals = 3)  (μ : sw_M) (ho : sw_out G 0 0 (fun a => a = ad) (.inl (some (.int o.1))) ly10 o.2 ν) (a1 : Int32) (a2 : Int32) (h : f_lawR_add_ly10 N  μ a1 a2 = some o) : SW G ad ly10 ν 0 0 0 [some (.ref 24), some (.int a1), some (.int a2)] [] μ := by
  unfold f_lawR_add_ly10 at h
  refine SW.aload_n (pc := 0) g (dt dt_X5_add 0 rfl) rfl ?_
  refine SW.getR (pc := 1) g (dt dt_X5_add 1 rfl) fl_X5_9 rfl rfl ?_
  refine SW.aload_n (pc := 4) g (dt dt_X5_add 2 rfl) rfl ?_
  refine SW.getI (pc := 5) g (dt dt_X5_add 3 rfl) fl_X5_27 rfl rfl ?_
  refine SW.iload_n (pc := 8) g (dt dt_X5_add 4 rfl) rfl ?_
  obtain ⟨r1, h2, h⟩ := bindI h
  refine SW.callSNv (pc := 9) g (dt dt_X5_add 5 rfl) (mt_f_sx_put _ _ _ _ ad ν ly10 25 150 rfl N μ (μ 24 4) a1 r1 h2) me_X10_put ms_X10_put mn_X5_41 rfl (Nat.le_of_ble_eq_true rfl) (Nat.le_of_ble_eq_true rfl) (Nat.le_of_ble_eq_true rfl) (Nat.le_of_ble_eq_true rfl) rfl ?_
  refine SW.aload_n (pc := 12) g (dt dt_X5_add 6 rfl) rfl ?_
  refine SW.getR (pc := 13) g (dt dt_X5_add 7 rfl) fl_X5_15 rfl rfl ?_
  refine SW.aload_n (pc := 16) g (dt dt_X5_add 8 rfl) rfl ?_
  refine SW.getI (pc := 17) g (dt dt_X5_add 9 rfl) fl_X5_27 rfl rfl ?_
  refine SW.iload_n (pc := 20) g (dt dt_X5_add 10 rfl) rfl ?_
  obtain ⟨r3, h4, h⟩ := bindI h
  refine SW.callSNv (pc := 21) g (dt dt_X5_add 11 rfl) (mt_f_sx_put _ _ _ _ ad ν ly10 26 150 rfl N r1 (r1 24 4) a2 r3 h4) me_X10_put ms_X10_put mn_X5_41 rfl (Nat.le_of_ble_eq_true rfl) (Nat.le_of_ble_eq_true rfl) (Nat.le_of_ble_eq_true rfl) (Nat.le_of_ble_eq_true rfl) rfl ?_
  refine SW.aload_n (pc := 24) g (dt dt_X5_add 12 rfl) rfl ?_
  refine SW.aload_n (pc := 25) g (dt dt_X5_add 13 rfl) rfl ?_
  refine SW.getI (pc := 26) g (dt dt_X5_add 14 rfl) fl_X5_27 rfl rfl ?_
  refine SW.iconst (pc := 29) (v := 1) g (dt dt_X5_add 15 rfl) ki_1 ?_
  refine SW.iadd (pc := 30) g (dt dt_X5_add 16 rfl) ?_
  refine SW.sipush (pc := 31) (v := 150) g (dt dt_X5_add 17 rfl) ks_150 ?_
  refine SW.mmin (pc := 34) g (dt dt_X5_add 18 rfl) ml_X5_45 ms_J9_min_7cf53 mt_init me_J9_min_7cf53.1 (Nat.le_of_ble_eq_true rfl) (Nat.le_of_ble_eq_true rfl) (Nat.le_of_ble_eq_true rfl) (Nat.le_of_ble_eq_true rfl) ?_
  refine SW.putI (pc := 37) g (dt dt_X5_add 19 rfl) fl_X5_27 rfl rfl ?_
  refine SW.genM h (fun μ5 h => ?_)
  refine SW.iconst (pc := 40) (v := 1) g (dt dt_X5_add 20 rfl) ki_1 ?_
  exact SW.zreturn (pc := 41) g (leafW h ho) rfl (Nat.le_of_ble_eq_true rfl) (Nat.le_of_ble_eq_true rfl) (by decide) (dt dt_X5_add 21 rfl)
set_option maxRecDepth 100000 in
set_option maxHeartbeats 4000000 in
theorem mt_f_lawR_add_ly10 (l : Launch) (D : va_G) (cI cL : ClassId) (ad : Nat → Nat) (ν : sw_N)    (N : Nat) (μ : sw_M) (a1 : Int32) (a2 : Int32) (o : Int32 × sw_M) (h : f_lawR_add_ly10 N  μ a1 a2 = some o) : MetR l D cI cL yX5_add cX5_add 3 (some .boolean) 2 0 0 (fun a => a = ad) ad [.ref 24, .int a1, .int a2] ly10 μ ν (some (.int o.1)) ly10 o.2 ν :=
  MetR.of (n := 0) rfl (Nat.le_of_ble_eq_true rfl) (fun G g ho hm _ _ => ok_f_lawR_add_ly10  g hm  μ ho a1 a2 h)
def f_lawR_clear_ly10 (N : Nat)  (μ : sw_M)  : Option (sw_M) :=
  wb (wr μ 24 4 0) (fun μ1 =>
    Option.bind (f_lawR_add_ly10 N  μ1 1 1) (fun r2 =>
      Option.bind (f_lawR_add_ly10 N  r2.2 2 0) (fun r4 =>
        Option.bind (f_lawR_add_ly10 N  r4.2 1 4) (fun r6 =>
          Option.bind (f_lawR_add_ly10 N  r6.2 47 0) (fun r8 =>
            Option.bind (f_lawR_add_ly10 N  r8.2 43 0) (fun r10 =>
              some r10.2))))))
set_option maxRecDepth 100000 in
set_option maxHeartbeats 4000000 in
theorem ok_f_lawR_clear_ly10 {G : sw_G} {ad : Nat → Nat} {ν : sw_N}   {N : Nat} {o : sw_M} (g : sw_ok G cX5_clear "DeadWires$Law" none 3 0 0 ad) (hm : G.2.2.1.2.1.maxLocals = 1)  (μ : sw_M) (ho : sw_out G 0 0 (fun a => a = ad) (.inl none) ly10 o ν)  (h : f_lawR_clear_ly10 N  μ  = some o) : SW G ad ly10 ν 0 0 0 [some (.ref 24)] [] μ := by
  unfold f_lawR_clear_ly10 at h
  refine SW.aload_n (pc := 0) g (dt dt_X5_clear 0 rfl) rfl ?_
  refine SW.iconst (pc := 1) (v := 0) g (dt dt_X5_clear 1 rfl) ki_0 ?_
  refine SW.putI (pc := 2) g (dt dt_X5_clear 2 rfl) fl_X5_27 rfl rfl ?_
  refine SW.genM h (fun μ1 h => ?_)
  refine SW.aload_n (pc := 5) g (dt dt_X5_clear 3 rfl) rfl ?_
  refine SW.iconst (pc := 6) (v := 1) g (dt dt_X5_clear 4 rfl) ki_1 ?_
  refine SW.iconst (pc := 7) (v := 1) g (dt dt_X5_clear 5 rfl) ki_1 ?_
  obtain ⟨r2, h3, h⟩ := bindI h
  refine SW.callVi (pc := 8) g (dt dt_X5_clear 6 rfl) (mt_f_lawR_add_ly10 _ _ _ _ ad ν   N μ1 1 1 r2 h3) me_X5_add mv_X5_add ml_X5_31 rfl rfl rfl (Nat.le_of_ble_eq_true rfl) (Nat.le_of_ble_eq_true rfl) (Nat.le_of_ble_eq_true rfl) (Nat.le_of_ble_eq_true rfl) rfl ?_
  refine SW.pop (pc := 11) g (dt dt_X5_clear 7 rfl) rfl ?_
  refine SW.aload_n (pc := 12) g (dt dt_X5_clear 8 rfl) rfl ?_
  refine SW.iconst (pc := 13) (v := 2) g (dt dt_X5_clear 9 rfl) ki_2 ?_
  refine SW.iconst (pc := 14) (v := 0) g (dt dt_X5_clear 10 rfl) ki_0 ?_
  obtain ⟨r4, h5, h⟩ := bindI h
  refine SW.callVi (pc := 15) g (dt dt_X5_clear 11 rfl) (mt_f_lawR_add_ly10 _ _ _ _ ad ν   N r2.2 2 0 r4 h5) me_X5_add mv_X5_add ml_X5_31 rfl rfl rfl (Nat.le_of_ble_eq_true rfl) (Nat.le_of_ble_eq_true rfl) (Nat.le_of_ble_eq_true rfl) (Nat.le_of_ble_eq_true rfl) rfl ?_
  refine SW.pop (pc := 18) g (dt dt_X5_clear 12 rfl) rfl ?_
  refine SW.aload_n (pc := 19) g (dt dt_X5_clear 13 rfl) rfl ?_
  refine SW.iconst (pc := 20) (v := 1) g (dt dt_X5_clear 14 rfl) ki_1 ?_
  refine SW.iconst (pc := 21) (v := 4) g (dt dt_X5_clear 15 rfl) ki_4 ?_
  obtain ⟨r6, h7, h⟩ := bindI h
  refine SW.callVi (pc := 22) g (dt dt_X5_clear 16 rfl) (mt_f_lawR_add_ly10 _ _ _ _ ad ν   N r4.2 1 4 r6 h7) me_X5_add mv_X5_add ml_X5_31 rfl rfl rfl (Nat.le_of_ble_eq_true rfl) (Nat.le_of_ble_eq_true rfl) (Nat.le_of_ble_eq_true rfl) (Nat.le_of_ble_eq_true rfl) rfl ?_
  refine SW.pop (pc := 25) g (dt dt_X5_clear 17 rfl) rfl ?_
  refine SW.aload_n (pc := 26) g (dt dt_X5_clear 18 rfl) rfl ?_
  refine SW.bipush (pc := 27) (v := 47) g (dt dt_X5_clear 19 rfl) kb_47 ?_
  refine SW.iconst (pc := 29) (v := 0) g (dt dt_X5_clear 20 rfl) ki_0 ?_
  obtain ⟨r8, h9, h⟩ := bindI h
  refine SW.callVi (pc := 30) g (dt dt_X5_clear 21 rfl) (mt_f_lawR_add_ly10 _ _ _ _ ad ν   N r6.2 47 0 r8 h9) me_X5_add mv_X5_add ml_X5_31 rfl rfl rfl (Nat.le_of_ble_eq_true rfl) (Nat.le_of_ble_eq_true rfl) (Nat.le_of_ble_eq_true rfl) (Nat.le_of_ble_eq_true rfl) rfl ?_
  refine SW.pop (pc := 33) g (dt dt_X5_clear 22 rfl) rfl ?_
  refine SW.aload_n (pc := 34) g (dt dt_X5_clear 23 rfl) rfl ?_
  refine SW.bipush (pc := 35) (v := 43) g (dt dt_X5_clear 24 rfl) kb_43 ?_
  refine SW.iconst (pc := 37) (v := 0) g (dt dt_X5_clear 25 rfl) ki_0 ?_
  obtain ⟨r10, h11, h⟩ := bindI h
  refine SW.callVi (pc := 38) g (dt dt_X5_clear 26 rfl) (mt_f_lawR_add_ly10 _ _ _ _ ad ν   N r8.2 43 0 r10 h11) me_X5_add mv_X5_add ml_X5_31 rfl rfl rfl (Nat.le_of_ble_eq_true rfl) (Nat.le_of_ble_eq_true rfl) (Nat.le_of_ble_eq_true rfl) (Nat.le_of_ble_eq_true rfl) rfl ?_
  refine SW.pop (pc := 41) g (dt dt_X5_clear 27 rfl) rfl ?_
  exact SW.vreturn (pc := 42) g (leafV h ho) rfl (Nat.le_of_ble_eq_true rfl) (Nat.le_of_ble_eq_true rfl) (dt dt_X5_clear 28 rfl)
set_option maxRecDepth 100000 in
set_option maxHeartbeats 4000000 in
theorem mt_f_lawR_clear_ly10 (l : Launch) (D : va_G) (cI cL : ClassId) (ad : Nat → Nat) (ν : sw_N)    (N : Nat) (μ : sw_M)  (o : sw_M) (h : f_lawR_clear_ly10 N  μ  = some o) : MetR l D cI cL yX5_clear cX5_clear 1 none 3 0 0 (fun a => a = ad) ad [.ref 24] ly10 μ ν none ly10 o ν :=
  MetR.of (n := 0) rfl (Nat.le_of_ble_eq_true rfl) (fun G g ho hm _ _ => ok_f_lawR_clear_ly10  g hm  μ ho  h)
def f_days_begin_ly16_102 (N : Nat)   : Nat → sw_M → Int32 → Option (sw_M)
  | 0, _, _ => none
  | n + 1, μ, x1 =>
    if 5 ≤ x1 then
      some μ
    else
      inb x1 5 (wb (wr μ 40 x1.toNatClampNeg 0) (fun μ2 =>
        f_days_begin_ly16_102 N   n μ2 (x1 + 1)))
def f_days_begin_ly16_81 (N : Nat)   : Nat → sw_M → Int32 → Option (sw_M)
  | 0, _, _ => none
  | n + 1, μ, x1 =>
    if 6 ≤ x1 then
      f_days_begin_ly16_102 N   N μ 0
    else
      inb x1 6 (wb (wr μ 38 x1.toNatClampNeg (-1)) (fun μ2 =>
        f_days_begin_ly16_81 N   n μ2 (x1 + 1)))
def f_days_begin_ly16 (N : Nat)  (μ : sw_M)  : Option (sw_M) :=
  wb (wr μ 35 2 0) (fun μ1 =>
    wb (wr μ1 35 3 (μ1 3 4)) (fun μ2 =>
      wb (wr μ2 35 4 0) (fun μ3 =>
        wb (wr μ3 35 5 0) (fun μ4 =>
          cpc 0 0 12 12 12 (wb (wrR μ4 36 (va_cpy (μ4 6) (μ4 36) (0 : Int32).toNatClampNeg (0 : Int32).toNatClampNeg (12 : Int32).toNatClampNeg)) (fun μ6 =>
            cpc 0 0 6 6 6 (wb (wrR μ6 37 (va_cpy (μ6 7) (μ6 37) (0 : Int32).toNatClampNeg (0 : Int32).toNatClampNeg (6 : Int32).toNatClampNeg)) (fun μ8 =>
              cpc 0 0 5 5 5 (wb (wrR μ8 39 (va_cpy (μ8 9) (μ8 39) (0 : Int32).toNatClampNeg (0 : Int32).toNatClampNeg (5 : Int32).toNatClampNeg)) (fun μ10 =>
                f_days_begin_ly16_81 N   N μ10 0))))))))))
set_option maxRecDepth 100000 in
set_option maxHeartbeats 4000000 in
theorem ok_f_days_begin_ly16_102 {G : sw_G} {ad : Nat → Nat} {ν : sw_N}   {N : Nat} {o : sw_M} (g : sw_ok G cX2_begin "DeadWires$Days" none 1 0 0 ad) (hm : G.2.2.1.2.1.maxLocals = 2)  (ho : sw_out G 0 0 (fun a => a = ad) (.inl none) ly16 o ν)  : ∀ (n : Nat) (μ : sw_M) (x1 : Int32) (h : f_days_begin_ly16_102 N   n μ x1 = some o), SW G ad ly16 ν 0 0 102 [some (.ref 35), some (.int x1)] [] μ := by
  intro n
  induction n with
  | zero => intro μ x1 h; simp only [f_days_begin_ly16_102] at h; cases h
  | succ n ih =>
    intro μ x1 h
    unfold f_days_begin_ly16_102 at h
    refine SW.iload_n (pc := 102) g (dt dt_X2_begin 55 rfl) rfl ?_
    refine SW.iconst (pc := 103) (v := 5) g (dt dt_X2_begin 56 rfl) ki_5 ?_
    refine SW.icmp_ge (pc := 104) (t := 120) g (dt dt_X2_begin 57 rfl) rfl (fun hc => ?_) (fun hc => ?_)
    · have h := iteT hc h
      exact SW.vreturn (pc := 120) g (leafV h ho) rfl (Nat.le_of_ble_eq_true rfl) (Nat.le_of_ble_eq_true rfl) (dt dt_X2_begin 65 rfl)
    · have h := iteF hc h
      refine SW.aload_n (pc := 107) g (dt dt_X2_begin 58 rfl) rfl ?_
      refine SW.getR (pc := 108) g (dt dt_X2_begin 59 rfl) fl_X2_24 rfl rfl ?_
      refine SW.iload_n (pc := 111) g (dt dt_X2_begin 60 rfl) rfl ?_
      refine SW.iconst (pc := 112) (v := 0) g (dt dt_X2_begin 61 rfl) ki_0 ?_
      obtain ⟨hb1, h⟩ := inbI h
      refine SW.iastore (pc := 113) g (dt dt_X2_begin 62 rfl) rfl hb1 ?_
      refine SW.genM h (fun μ2 h => ?_)
      refine SW.iinc (pc := 114) (v := x1 + 1) g (dt dt_X2_begin 63 rfl) rfl (kn_1 _) (sw_ltm hm (Nat.le_of_ble_eq_true rfl)) rfl ?_
      refine SW.goto (pc := 117) (t := 102) g (dt dt_X2_begin 64 rfl) rfl ?_
      refine SW.msk [true, true] ?_
      exact ih μ2 (x1 + 1) h
set_option maxRecDepth 100000 in
set_option maxHeartbeats 4000000 in
theorem ok_f_days_begin_ly16_81 {G : sw_G} {ad : Nat → Nat} {ν : sw_N}   {N : Nat} {o : sw_M} (g : sw_ok G cX2_begin "DeadWires$Days" none 1 0 0 ad) (hm : G.2.2.1.2.1.maxLocals = 2)  (ho : sw_out G 0 0 (fun a => a = ad) (.inl none) ly16 o ν)  : ∀ (n : Nat) (μ : sw_M) (x1 : Int32) (h : f_days_begin_ly16_81 N   n μ x1 = some o), SW G ad ly16 ν 0 0 81 [some (.ref 35), some (.int x1)] [] μ := by
  intro n
  induction n with
  | zero => intro μ x1 h; simp only [f_days_begin_ly16_81] at h; cases h
  | succ n ih =>
    intro μ x1 h
    unfold f_days_begin_ly16_81 at h
    refine SW.iload_n (pc := 81) g (dt dt_X2_begin 43 rfl) rfl ?_
    refine SW.bipush (pc := 82) (v := 6) g (dt dt_X2_begin 44 rfl) kb_6 ?_
    refine SW.icmp_ge (pc := 84) (t := 100) g (dt dt_X2_begin 45 rfl) rfl (fun hc => ?_) (fun hc => ?_)
    · have h := iteT hc h
      refine SW.iconst (pc := 100) (v := 0) g (dt dt_X2_begin 53 rfl) ki_0 ?_
      refine SW.istore_n (pc := 101) g (dt dt_X2_begin 54 rfl) (sw_ltm hm (Nat.le_of_ble_eq_true rfl)) rfl ?_
      refine SW.msk [true, true] ?_
      exact ok_f_days_begin_ly16_102  g hm  ho   N μ 0 h
    · have h := iteF hc h
      refine SW.aload_n (pc := 87) g (dt dt_X2_begin 46 rfl) rfl ?_
      refine SW.getR (pc := 88) g (dt dt_X2_begin 47 rfl) fl_X2_18 rfl rfl ?_
      refine SW.iload_n (pc := 91) g (dt dt_X2_begin 48 rfl) rfl ?_
      refine SW.iconst (pc := 92) (v := (-1)) g (dt dt_X2_begin 49 rfl) ki_m1 ?_
      obtain ⟨hb1, h⟩ := inbI h
      refine SW.iastore (pc := 93) g (dt dt_X2_begin 50 rfl) rfl hb1 ?_
      refine SW.genM h (fun μ2 h => ?_)
      refine SW.iinc (pc := 94) (v := x1 + 1) g (dt dt_X2_begin 51 rfl) rfl (kn_1 _) (sw_ltm hm (Nat.le_of_ble_eq_true rfl)) rfl ?_
      refine SW.goto (pc := 97) (t := 81) g (dt dt_X2_begin 52 rfl) rfl ?_
      refine SW.msk [true, true] ?_
      exact ih μ2 (x1 + 1) h
set_option maxRecDepth 100000 in
set_option maxHeartbeats 4000000 in
theorem ok_f_days_begin_ly16 {G : sw_G} {ad : Nat → Nat} {ν : sw_N}   {N : Nat} {o : sw_M} (g : sw_ok G cX2_begin "DeadWires$Days" none 1 0 0 ad) (hm : G.2.2.1.2.1.maxLocals = 2)  (μ : sw_M) (ho : sw_out G 0 0 (fun a => a = ad) (.inl none) ly16 o ν)  (h : f_days_begin_ly16 N  μ  = some o) : SW G ad ly16 ν 0 0 0 [some (.ref 35), none] [] μ := by
  unfold f_days_begin_ly16 at h
  refine SW.aload_n (pc := 0) g (dt dt_X2_begin 0 rfl) rfl ?_
  refine SW.iconst (pc := 1) (v := 0) g (dt dt_X2_begin 1 rfl) ki_0 ?_
  refine SW.putI (pc := 2) g (dt dt_X2_begin 2 rfl) fl_X2_38 rfl rfl ?_
  refine SW.genM h (fun μ1 h => ?_)
  refine SW.aload_n (pc := 5) g (dt dt_X2_begin 3 rfl) rfl ?_
  refine SW.aload_n (pc := 6) g (dt dt_X2_begin 4 rfl) rfl ?_
  refine SW.getR (pc := 7) g (dt dt_X2_begin 5 rfl) fl_X2_27 rfl rfl ?_
  refine SW.getI (pc := 10) g (dt dt_X2_begin 6 rfl) fl_X2_42 rfl rfl ?_
  refine SW.putI (pc := 13) g (dt dt_X2_begin 7 rfl) fl_X2_47 rfl rfl ?_
  refine SW.genM h (fun μ2 h => ?_)
  refine SW.aload_n (pc := 16) g (dt dt_X2_begin 8 rfl) rfl ?_
  refine SW.iconst (pc := 17) (v := 0) g (dt dt_X2_begin 9 rfl) ki_0 ?_
  refine SW.putI (pc := 18) g (dt dt_X2_begin 10 rfl) fl_X2_50 rfl rfl ?_
  refine SW.genM h (fun μ3 h => ?_)
  refine SW.aload_n (pc := 21) g (dt dt_X2_begin 11 rfl) rfl ?_
  refine SW.iconst (pc := 22) (v := 0) g (dt dt_X2_begin 12 rfl) ki_0 ?_
  refine SW.putI (pc := 23) g (dt dt_X2_begin 13 rfl) fl_X2_53 rfl rfl ?_
  refine SW.genM h (fun μ4 h => ?_)
  refine SW.aload_n (pc := 26) g (dt dt_X2_begin 14 rfl) rfl ?_
  refine SW.getR (pc := 27) g (dt dt_X2_begin 15 rfl) fl_X2_27 rfl rfl ?_
  refine SW.getR (pc := 30) g (dt dt_X2_begin 16 rfl) fl_X2_56 rfl rfl ?_
  refine SW.iconst (pc := 33) (v := 0) g (dt dt_X2_begin 17 rfl) ki_0 ?_
  refine SW.aload_n (pc := 34) g (dt dt_X2_begin 18 rfl) rfl ?_
  refine SW.getR (pc := 35) g (dt dt_X2_begin 19 rfl) fl_X2_9 rfl rfl ?_
  refine SW.iconst (pc := 38) (v := 0) g (dt dt_X2_begin 20 rfl) ki_0 ?_
  refine SW.bipush (pc := 39) (v := 12) g (dt dt_X2_begin 21 rfl) kb_12 ?_
  obtain ⟨hq5, h⟩ := cpcI h
  refine SW.acopy (pc := 41) g (dt dt_X2_begin 22 rfl) ml_X2_59 ac_n ac_s ac_i rfl rfl hq5.1 hq5.2.1 hq5.2.2.1 hq5.2.2.2.1 hq5.2.2.2.2 (Nat.le_of_ble_eq_true rfl) (Nat.le_of_ble_eq_true rfl) ?_
  refine SW.genM h (fun μ6 h => ?_)
  refine SW.aload_n (pc := 44) g (dt dt_X2_begin 23 rfl) rfl ?_
  refine SW.getR (pc := 45) g (dt dt_X2_begin 24 rfl) fl_X2_27 rfl rfl ?_
  refine SW.getR (pc := 48) g (dt dt_X2_begin 25 rfl) fl_X2_65 rfl rfl ?_
  refine SW.iconst (pc := 51) (v := 0) g (dt dt_X2_begin 26 rfl) ki_0 ?_
  refine SW.aload_n (pc := 52) g (dt dt_X2_begin 27 rfl) rfl ?_
  refine SW.getR (pc := 53) g (dt dt_X2_begin 28 rfl) fl_X2_15 rfl rfl ?_
  refine SW.iconst (pc := 56) (v := 0) g (dt dt_X2_begin 29 rfl) ki_0 ?_
  refine SW.bipush (pc := 57) (v := 6) g (dt dt_X2_begin 30 rfl) kb_6 ?_
  obtain ⟨hq7, h⟩ := cpcI h
  refine SW.acopy (pc := 59) g (dt dt_X2_begin 31 rfl) ml_X2_59 ac_n ac_s ac_i rfl rfl hq7.1 hq7.2.1 hq7.2.2.1 hq7.2.2.2.1 hq7.2.2.2.2 (Nat.le_of_ble_eq_true rfl) (Nat.le_of_ble_eq_true rfl) ?_
  refine SW.genM h (fun μ8 h => ?_)
  refine SW.aload_n (pc := 62) g (dt dt_X2_begin 32 rfl) rfl ?_
  refine SW.getR (pc := 63) g (dt dt_X2_begin 33 rfl) fl_X2_27 rfl rfl ?_
  refine SW.getR (pc := 66) g (dt dt_X2_begin 34 rfl) fl_X2_68 rfl rfl ?_
  refine SW.iconst (pc := 69) (v := 0) g (dt dt_X2_begin 35 rfl) ki_0 ?_
  refine SW.aload_n (pc := 70) g (dt dt_X2_begin 36 rfl) rfl ?_
  refine SW.getR (pc := 71) g (dt dt_X2_begin 37 rfl) fl_X2_21 rfl rfl ?_
  refine SW.iconst (pc := 74) (v := 0) g (dt dt_X2_begin 38 rfl) ki_0 ?_
  refine SW.iconst (pc := 75) (v := 5) g (dt dt_X2_begin 39 rfl) ki_5 ?_
  obtain ⟨hq9, h⟩ := cpcI h
  refine SW.acopy (pc := 76) g (dt dt_X2_begin 40 rfl) ml_X2_59 ac_n ac_s ac_i rfl rfl hq9.1 hq9.2.1 hq9.2.2.1 hq9.2.2.2.1 hq9.2.2.2.2 (Nat.le_of_ble_eq_true rfl) (Nat.le_of_ble_eq_true rfl) ?_
  refine SW.genM h (fun μ10 h => ?_)
  refine SW.iconst (pc := 79) (v := 0) g (dt dt_X2_begin 41 rfl) ki_0 ?_
  refine SW.istore_n (pc := 80) g (dt dt_X2_begin 42 rfl) (sw_ltm hm (Nat.le_of_ble_eq_true rfl)) rfl ?_
  refine SW.msk [true, true] ?_
  exact ok_f_days_begin_ly16_81  g hm  ho   N μ10 0 h
set_option maxRecDepth 100000 in
set_option maxHeartbeats 4000000 in
theorem mt_f_days_begin_ly16 (l : Launch) (D : va_G) (cI cL : ClassId) (ad : Nat → Nat) (ν : sw_N)    (N : Nat) (μ : sw_M)  (o : sw_M) (h : f_days_begin_ly16 N  μ  = some o) : MetR l D cI cL yX2_begin cX2_begin 2 none 1 0 0 (fun a => a = ad) ad [.ref 35] ly16 μ ν none ly16 o ν :=
  MetR.of (n := 1) rfl (Nat.le_of_ble_eq_true rfl) (fun G g ho hm _ _ => ok_f_days_begin_ly16  g hm  μ ho  h)
def f_dream_begin_ly27_102 (N : Nat)   : Nat → sw_M → Int32 → Option (sw_M)
  | 0, _, _ => none
  | n + 1, μ, x1 =>
    if 5 ≤ x1 then
      some μ
    else
      inb x1 5 (wb (wr μ 62 x1.toNatClampNeg 0) (fun μ2 =>
        f_dream_begin_ly27_102 N   n μ2 (x1 + 1)))
def f_dream_begin_ly27_81 (N : Nat)   : Nat → sw_M → Int32 → Option (sw_M)
  | 0, _, _ => none
  | n + 1, μ, x1 =>
    if 6 ≤ x1 then
      f_dream_begin_ly27_102 N   N μ 0
    else
      inb x1 6 (wb (wr μ 60 x1.toNatClampNeg (-1)) (fun μ2 =>
        f_dream_begin_ly27_81 N   n μ2 (x1 + 1)))
def f_dream_begin_ly27 (N : Nat)  (μ : sw_M)  : Option (sw_M) :=
  wb (wr μ 57 2 0) (fun μ1 =>
    wb (wr μ1 57 3 (μ1 3 4)) (fun μ2 =>
      wb (wr μ2 57 4 0) (fun μ3 =>
        wb (wr μ3 57 5 0) (fun μ4 =>
          cpc 0 0 12 12 12 (wb (wrR μ4 58 (va_cpy (μ4 6) (μ4 58) (0 : Int32).toNatClampNeg (0 : Int32).toNatClampNeg (12 : Int32).toNatClampNeg)) (fun μ6 =>
            cpc 0 0 6 6 6 (wb (wrR μ6 59 (va_cpy (μ6 7) (μ6 59) (0 : Int32).toNatClampNeg (0 : Int32).toNatClampNeg (6 : Int32).toNatClampNeg)) (fun μ8 =>
              cpc 0 0 5 5 5 (wb (wrR μ8 61 (va_cpy (μ8 9) (μ8 61) (0 : Int32).toNatClampNeg (0 : Int32).toNatClampNeg (5 : Int32).toNatClampNeg)) (fun μ10 =>
                f_dream_begin_ly27_81 N   N μ10 0))))))))))
set_option maxRecDepth 100000 in
set_option maxHeartbeats 4000000 in
theorem ok_f_dream_begin_ly27_102 {G : sw_G} {ad : Nat → Nat} {ν : sw_N}   {N : Nat} {o : sw_M} (g : sw_ok G cX2_begin "DeadWires$Days" none 1 0 0 ad) (hm : G.2.2.1.2.1.maxLocals = 2)  (ho : sw_out G 0 0 (fun a => a = ad) (.inl none) ly27 o ν)  : ∀ (n : Nat) (μ : sw_M) (x1 : Int32) (h : f_dream_begin_ly27_102 N   n μ x1 = some o), SW G ad ly27 ν 0 0 102 [some (.ref 57), some (.int x1)] [] μ := by
  intro n
  induction n with
  | zero => intro μ x1 h; simp only [f_dream_begin_ly27_102] at h; cases h
  | succ n ih =>
    intro μ x1 h
    unfold f_dream_begin_ly27_102 at h
    refine SW.iload_n (pc := 102) g (dt dt_X2_begin 55 rfl) rfl ?_
    refine SW.iconst (pc := 103) (v := 5) g (dt dt_X2_begin 56 rfl) ki_5 ?_
    refine SW.icmp_ge (pc := 104) (t := 120) g (dt dt_X2_begin 57 rfl) rfl (fun hc => ?_) (fun hc => ?_)
    · have h := iteT hc h
      exact SW.vreturn (pc := 120) g (leafV h ho) rfl (Nat.le_of_ble_eq_true rfl) (Nat.le_of_ble_eq_true rfl) (dt dt_X2_begin 65 rfl)
    · have h := iteF hc h
      refine SW.aload_n (pc := 107) g (dt dt_X2_begin 58 rfl) rfl ?_
      refine SW.getR (pc := 108) g (dt dt_X2_begin 59 rfl) fl_X2_24 rfl rfl ?_
      refine SW.iload_n (pc := 111) g (dt dt_X2_begin 60 rfl) rfl ?_
      refine SW.iconst (pc := 112) (v := 0) g (dt dt_X2_begin 61 rfl) ki_0 ?_
      obtain ⟨hb1, h⟩ := inbI h
      refine SW.iastore (pc := 113) g (dt dt_X2_begin 62 rfl) rfl hb1 ?_
      refine SW.genM h (fun μ2 h => ?_)
      refine SW.iinc (pc := 114) (v := x1 + 1) g (dt dt_X2_begin 63 rfl) rfl (kn_1 _) (sw_ltm hm (Nat.le_of_ble_eq_true rfl)) rfl ?_
      refine SW.goto (pc := 117) (t := 102) g (dt dt_X2_begin 64 rfl) rfl ?_
      refine SW.msk [true, true] ?_
      exact ih μ2 (x1 + 1) h
set_option maxRecDepth 100000 in
set_option maxHeartbeats 4000000 in
theorem ok_f_dream_begin_ly27_81 {G : sw_G} {ad : Nat → Nat} {ν : sw_N}   {N : Nat} {o : sw_M} (g : sw_ok G cX2_begin "DeadWires$Days" none 1 0 0 ad) (hm : G.2.2.1.2.1.maxLocals = 2)  (ho : sw_out G 0 0 (fun a => a = ad) (.inl none) ly27 o ν)  : ∀ (n : Nat) (μ : sw_M) (x1 : Int32) (h : f_dream_begin_ly27_81 N   n μ x1 = some o), SW G ad ly27 ν 0 0 81 [some (.ref 57), some (.int x1)] [] μ := by
  intro n
  induction n with
  | zero => intro μ x1 h; simp only [f_dream_begin_ly27_81] at h; cases h
  | succ n ih =>
    intro μ x1 h
    unfold f_dream_begin_ly27_81 at h
    refine SW.iload_n (pc := 81) g (dt dt_X2_begin 43 rfl) rfl ?_
    refine SW.bipush (pc := 82) (v := 6) g (dt dt_X2_begin 44 rfl) kb_6 ?_
    refine SW.icmp_ge (pc := 84) (t := 100) g (dt dt_X2_begin 45 rfl) rfl (fun hc => ?_) (fun hc => ?_)
    · have h := iteT hc h
      refine SW.iconst (pc := 100) (v := 0) g (dt dt_X2_begin 53 rfl) ki_0 ?_
      refine SW.istore_n (pc := 101) g (dt dt_X2_begin 54 rfl) (sw_ltm hm (Nat.le_of_ble_eq_true rfl)) rfl ?_
      refine SW.msk [true, true] ?_
      exact ok_f_dream_begin_ly27_102  g hm  ho   N μ 0 h
    · have h := iteF hc h
      refine SW.aload_n (pc := 87) g (dt dt_X2_begin 46 rfl) rfl ?_
      refine SW.getR (pc := 88) g (dt dt_X2_begin 47 rfl) fl_X2_18 rfl rfl ?_
      refine SW.iload_n (pc := 91) g (dt dt_X2_begin 48 rfl) rfl ?_
      refine SW.iconst (pc := 92) (v := (-1)) g (dt dt_X2_begin 49 rfl) ki_m1 ?_
      obtain ⟨hb1, h⟩ := inbI h
      refine SW.iastore (pc := 93) g (dt dt_X2_begin 50 rfl) rfl hb1 ?_
      refine SW.genM h (fun μ2 h => ?_)
      refine SW.iinc (pc := 94) (v := x1 + 1) g (dt dt_X2_begin 51 rfl) rfl (kn_1 _) (sw_ltm hm (Nat.le_of_ble_eq_true rfl)) rfl ?_
      refine SW.goto (pc := 97) (t := 81) g (dt dt_X2_begin 52 rfl) rfl ?_
      refine SW.msk [true, true] ?_
      exact ih μ2 (x1 + 1) h
set_option maxRecDepth 100000 in
set_option maxHeartbeats 4000000 in
theorem ok_f_dream_begin_ly27 {G : sw_G} {ad : Nat → Nat} {ν : sw_N}   {N : Nat} {o : sw_M} (g : sw_ok G cX2_begin "DeadWires$Days" none 1 0 0 ad) (hm : G.2.2.1.2.1.maxLocals = 2)  (μ : sw_M) (ho : sw_out G 0 0 (fun a => a = ad) (.inl none) ly27 o ν)  (h : f_dream_begin_ly27 N  μ  = some o) : SW G ad ly27 ν 0 0 0 [some (.ref 57), none] [] μ := by
  unfold f_dream_begin_ly27 at h
  refine SW.aload_n (pc := 0) g (dt dt_X2_begin 0 rfl) rfl ?_
  refine SW.iconst (pc := 1) (v := 0) g (dt dt_X2_begin 1 rfl) ki_0 ?_
  refine SW.putI (pc := 2) g (dt dt_X2_begin 2 rfl) fl_X2_38 rfl rfl ?_
  refine SW.genM h (fun μ1 h => ?_)
  refine SW.aload_n (pc := 5) g (dt dt_X2_begin 3 rfl) rfl ?_
  refine SW.aload_n (pc := 6) g (dt dt_X2_begin 4 rfl) rfl ?_
  refine SW.getR (pc := 7) g (dt dt_X2_begin 5 rfl) fl_X2_27 rfl rfl ?_
  refine SW.getI (pc := 10) g (dt dt_X2_begin 6 rfl) fl_X2_42 rfl rfl ?_
  refine SW.putI (pc := 13) g (dt dt_X2_begin 7 rfl) fl_X2_47 rfl rfl ?_
  refine SW.genM h (fun μ2 h => ?_)
  refine SW.aload_n (pc := 16) g (dt dt_X2_begin 8 rfl) rfl ?_
  refine SW.iconst (pc := 17) (v := 0) g (dt dt_X2_begin 9 rfl) ki_0 ?_
  refine SW.putI (pc := 18) g (dt dt_X2_begin 10 rfl) fl_X2_50 rfl rfl ?_
  refine SW.genM h (fun μ3 h => ?_)
  refine SW.aload_n (pc := 21) g (dt dt_X2_begin 11 rfl) rfl ?_
  refine SW.iconst (pc := 22) (v := 0) g (dt dt_X2_begin 12 rfl) ki_0 ?_
  refine SW.putI (pc := 23) g (dt dt_X2_begin 13 rfl) fl_X2_53 rfl rfl ?_
  refine SW.genM h (fun μ4 h => ?_)
  refine SW.aload_n (pc := 26) g (dt dt_X2_begin 14 rfl) rfl ?_
  refine SW.getR (pc := 27) g (dt dt_X2_begin 15 rfl) fl_X2_27 rfl rfl ?_
  refine SW.getR (pc := 30) g (dt dt_X2_begin 16 rfl) fl_X2_56 rfl rfl ?_
  refine SW.iconst (pc := 33) (v := 0) g (dt dt_X2_begin 17 rfl) ki_0 ?_
  refine SW.aload_n (pc := 34) g (dt dt_X2_begin 18 rfl) rfl ?_
  refine SW.getR (pc := 35) g (dt dt_X2_begin 19 rfl) fl_X2_9 rfl rfl ?_
  refine SW.iconst (pc := 38) (v := 0) g (dt dt_X2_begin 20 rfl) ki_0 ?_
  refine SW.bipush (pc := 39) (v := 12) g (dt dt_X2_begin 21 rfl) kb_12 ?_
  obtain ⟨hq5, h⟩ := cpcI h
  refine SW.acopy (pc := 41) g (dt dt_X2_begin 22 rfl) ml_X2_59 ac_n ac_s ac_i rfl rfl hq5.1 hq5.2.1 hq5.2.2.1 hq5.2.2.2.1 hq5.2.2.2.2 (Nat.le_of_ble_eq_true rfl) (Nat.le_of_ble_eq_true rfl) ?_
  refine SW.genM h (fun μ6 h => ?_)
  refine SW.aload_n (pc := 44) g (dt dt_X2_begin 23 rfl) rfl ?_
  refine SW.getR (pc := 45) g (dt dt_X2_begin 24 rfl) fl_X2_27 rfl rfl ?_
  refine SW.getR (pc := 48) g (dt dt_X2_begin 25 rfl) fl_X2_65 rfl rfl ?_
  refine SW.iconst (pc := 51) (v := 0) g (dt dt_X2_begin 26 rfl) ki_0 ?_
  refine SW.aload_n (pc := 52) g (dt dt_X2_begin 27 rfl) rfl ?_
  refine SW.getR (pc := 53) g (dt dt_X2_begin 28 rfl) fl_X2_15 rfl rfl ?_
  refine SW.iconst (pc := 56) (v := 0) g (dt dt_X2_begin 29 rfl) ki_0 ?_
  refine SW.bipush (pc := 57) (v := 6) g (dt dt_X2_begin 30 rfl) kb_6 ?_
  obtain ⟨hq7, h⟩ := cpcI h
  refine SW.acopy (pc := 59) g (dt dt_X2_begin 31 rfl) ml_X2_59 ac_n ac_s ac_i rfl rfl hq7.1 hq7.2.1 hq7.2.2.1 hq7.2.2.2.1 hq7.2.2.2.2 (Nat.le_of_ble_eq_true rfl) (Nat.le_of_ble_eq_true rfl) ?_
  refine SW.genM h (fun μ8 h => ?_)
  refine SW.aload_n (pc := 62) g (dt dt_X2_begin 32 rfl) rfl ?_
  refine SW.getR (pc := 63) g (dt dt_X2_begin 33 rfl) fl_X2_27 rfl rfl ?_
  refine SW.getR (pc := 66) g (dt dt_X2_begin 34 rfl) fl_X2_68 rfl rfl ?_
  refine SW.iconst (pc := 69) (v := 0) g (dt dt_X2_begin 35 rfl) ki_0 ?_
  refine SW.aload_n (pc := 70) g (dt dt_X2_begin 36 rfl) rfl ?_
  refine SW.getR (pc := 71) g (dt dt_X2_begin 37 rfl) fl_X2_21 rfl rfl ?_
  refine SW.iconst (pc := 74) (v := 0) g (dt dt_X2_begin 38 rfl) ki_0 ?_
  refine SW.iconst (pc := 75) (v := 5) g (dt dt_X2_begin 39 rfl) ki_5 ?_
  obtain ⟨hq9, h⟩ := cpcI h
  refine SW.acopy (pc := 76) g (dt dt_X2_begin 40 rfl) ml_X2_59 ac_n ac_s ac_i rfl rfl hq9.1 hq9.2.1 hq9.2.2.1 hq9.2.2.2.1 hq9.2.2.2.2 (Nat.le_of_ble_eq_true rfl) (Nat.le_of_ble_eq_true rfl) ?_
  refine SW.genM h (fun μ10 h => ?_)
  refine SW.iconst (pc := 79) (v := 0) g (dt dt_X2_begin 41 rfl) ki_0 ?_
  refine SW.istore_n (pc := 80) g (dt dt_X2_begin 42 rfl) (sw_ltm hm (Nat.le_of_ble_eq_true rfl)) rfl ?_
  refine SW.msk [true, true] ?_
  exact ok_f_dream_begin_ly27_81  g hm  ho   N μ10 0 h
set_option maxRecDepth 100000 in
set_option maxHeartbeats 4000000 in
theorem mt_f_dream_begin_ly27 (l : Launch) (D : va_G) (cI cL : ClassId) (ad : Nat → Nat) (ν : sw_N)    (N : Nat) (μ : sw_M)  (o : sw_M) (h : f_dream_begin_ly27 N  μ  = some o) : MetR l D cI cL yX2_begin cX2_begin 2 none 1 0 0 (fun a => a = ad) ad [.ref 57] ly27 μ ν none ly27 o ν :=
  MetR.of (n := 1) rfl (Nat.le_of_ble_eq_true rfl) (fun G g ho hm _ _ => ok_f_dream_begin_ly27  g hm  μ ho  h)
def f_m_clears_ly31 (N : Nat)  (μ : sw_M)  : Option (sw_M) :=
  wb (wr μ 63 16 0) (fun μ1 =>
    wb (wr μ1 63 17 0) (fun μ2 =>
      wb (wr μ2 63 18 0) (fun μ3 =>
        wb (wr μ3 63 19 0) (fun μ4 =>
          wb (wr μ4 63 20 2) (fun μ5 =>
            some μ5)))))
set_option maxRecDepth 100000 in
set_option maxHeartbeats 4000000 in
theorem ok_f_m_clears_ly31 {G : sw_G} {ad : Nat → Nat} {ν : sw_N}   {N : Nat} {o : sw_M} (g : sw_ok G cX11_clears "DeadWiresModel" none 1 0 0 ad) (hm : G.2.2.1.2.1.maxLocals = 1)  (μ : sw_M) (ho : sw_out G 0 0 (fun a => a = ad) (.inl none) ly31 o ν)  (h : f_m_clears_ly31 N  μ  = some o) : SW G ad ly31 ν 0 0 0 [some (.ref 63)] [] μ := by
  unfold f_m_clears_ly31 at h
  refine SW.aload_n (pc := 0) g (dt dt_X11_clears 0 rfl) rfl ?_
  refine SW.iconst (pc := 1) (v := 0) g (dt dt_X11_clears 1 rfl) ki_0 ?_
  refine SW.putI (pc := 2) g (dt dt_X11_clears 2 rfl) fl_X11_138 rfl rfl ?_
  refine SW.genM h (fun μ1 h => ?_)
  refine SW.aload_n (pc := 5) g (dt dt_X11_clears 3 rfl) rfl ?_
  refine SW.iconst (pc := 6) (v := 0) g (dt dt_X11_clears 4 rfl) ki_0 ?_
  refine SW.putI (pc := 7) g (dt dt_X11_clears 5 rfl) fl_X11_141 rfl rfl ?_
  refine SW.genM h (fun μ2 h => ?_)
  refine SW.aload_n (pc := 10) g (dt dt_X11_clears 6 rfl) rfl ?_
  refine SW.iconst (pc := 11) (v := 0) g (dt dt_X11_clears 7 rfl) ki_0 ?_
  refine SW.putI (pc := 12) g (dt dt_X11_clears 8 rfl) fl_X11_144 rfl rfl ?_
  refine SW.genM h (fun μ3 h => ?_)
  refine SW.aload_n (pc := 15) g (dt dt_X11_clears 9 rfl) rfl ?_
  refine SW.iconst (pc := 16) (v := 0) g (dt dt_X11_clears 10 rfl) ki_0 ?_
  refine SW.putI (pc := 17) g (dt dt_X11_clears 11 rfl) fl_X11_147 rfl rfl ?_
  refine SW.genM h (fun μ4 h => ?_)
  refine SW.aload_n (pc := 20) g (dt dt_X11_clears 12 rfl) rfl ?_
  refine SW.iconst (pc := 21) (v := 2) g (dt dt_X11_clears 13 rfl) ki_2 ?_
  refine SW.putI (pc := 22) g (dt dt_X11_clears 14 rfl) fl_X11_150 rfl rfl ?_
  refine SW.genM h (fun μ5 h => ?_)
  exact SW.vreturn (pc := 25) g (leafV h ho) rfl (Nat.le_of_ble_eq_true rfl) (Nat.le_of_ble_eq_true rfl) (dt dt_X11_clears 15 rfl)
set_option maxRecDepth 100000 in
set_option maxHeartbeats 4000000 in
theorem mt_f_m_clears_ly31 (l : Launch) (D : va_G) (cI cL : ClassId) (ad : Nat → Nat) (ν : sw_N)    (N : Nat) (μ : sw_M)  (o : sw_M) (h : f_m_clears_ly31 N  μ  = some o) : MetR l D cI cL yX11_clears cX11_clears 1 none 1 0 0 (fun a => a = ad) ad [.ref 63] ly31 μ ν none ly31 o ν :=
  MetR.of (n := 0) rfl (Nat.le_of_ble_eq_true rfl) (fun G g ho hm _ _ => ok_f_m_clears_ly31  g hm  μ ho  h)
def f_m_copies_ly31_3 (N : Nat) (k0 n0 : Nat) (k1 n1 : Nat)  : Nat → sw_M → Int32 → Int32 → Option (sw_M)
  | 0, _, _, _ => none
  | n + 1, μ, x3, x4 =>
    if x3 ≤ x4 then
      some μ
    else
      inb x4 n0 (
        inb x4 n1 (wb (wr μ k1 x4.toNatClampNeg (μ k0 x4.toNatClampNeg)) (fun μ3 =>
          f_m_copies_ly31_3 N k0 n0 k1 n1  n μ3 x3 (x4 + 1))))
def f_m_copies_ly31 (N : Nat) (k0 n0 : Nat) (k1 n1 : Nat) (μ : sw_M) (a3 : Int32) : Option (sw_M) :=
  f_m_copies_ly31_3 N k0 n0 k1 n1  N μ a3 0
set_option maxRecDepth 100000 in
set_option maxHeartbeats 4000000 in
theorem ok_f_m_copies_ly31_3 {G : sw_G} {ad : Nat → Nat} {ν : sw_N}  (k0 n0 : Nat) (k1 n1 : Nat) {N : Nat} {o : sw_M} (g : sw_ok G cX11_copies "DeadWiresModel" none 1 0 0 ad) (hm : G.2.2.1.2.1.maxLocals = 5) (hk0 : ly31[k0]? = some (.inl (false, n0))) (hk1 : ly31[k1]? = some (.inl (false, n1))) (ho : sw_out G 0 0 (fun a => a = ad) (.inl none) ly31 o ν)  : ∀ (n : Nat) (μ : sw_M) (x3 : Int32) (x4 : Int32) (h : f_m_copies_ly31_3 N k0 n0 k1 n1  n μ x3 x4 = some o), SW G ad ly31 ν 0 0 3 [none, some (.ref k0), some (.ref k1), some (.int x3), some (.int x4)] [] μ := by
  intro n
  induction n with
  | zero => intro μ x3 x4 h; simp only [f_m_copies_ly31_3] at h; cases h
  | succ n ih =>
    intro μ x3 x4 h
    unfold f_m_copies_ly31_3 at h
    refine SW.iload (pc := 3) g (dt dt_X11_copies 2 rfl) rfl ?_
    refine SW.iload_n (pc := 5) g (dt dt_X11_copies 3 rfl) rfl ?_
    refine SW.icmp_ge (pc := 6) (t := 23) g (dt dt_X11_copies 4 rfl) rfl (fun hc => ?_) (fun hc => ?_)
    · have h := iteT hc h
      exact SW.vreturn (pc := 23) g (leafV h ho) rfl (Nat.le_of_ble_eq_true rfl) (Nat.le_of_ble_eq_true rfl) (dt dt_X11_copies 13 rfl)
    · have h := iteF hc h
      refine SW.aload_n (pc := 9) g (dt dt_X11_copies 5 rfl) rfl ?_
      refine SW.iload (pc := 10) g (dt dt_X11_copies 6 rfl) rfl ?_
      refine SW.aload_n (pc := 12) g (dt dt_X11_copies 7 rfl) rfl ?_
      refine SW.iload (pc := 13) g (dt dt_X11_copies 8 rfl) rfl ?_
      obtain ⟨hb1, h⟩ := inbI h
      refine SW.iaload (pc := 15) g (dt dt_X11_copies 9 rfl) hk0 hb1 ?_
      obtain ⟨hb2, h⟩ := inbI h
      refine SW.iastore (pc := 16) g (dt dt_X11_copies 10 rfl) hk1 hb2 ?_
      refine SW.genM h (fun μ3 h => ?_)
      refine SW.iinc (pc := 17) (v := x4 + 1) g (dt dt_X11_copies 11 rfl) rfl (kn_1 _) (sw_ltm hm (Nat.le_of_ble_eq_true rfl)) rfl ?_
      refine SW.goto (pc := 20) (t := 3) g (dt dt_X11_copies 12 rfl) rfl ?_
      refine SW.msk [false, true, true, true, true] ?_
      exact ih μ3 x3 (x4 + 1) h
set_option maxRecDepth 100000 in
set_option maxHeartbeats 4000000 in
theorem ok_f_m_copies_ly31 {G : sw_G} {ad : Nat → Nat} {ν : sw_N}  (k0 n0 : Nat) (k1 n1 : Nat) {N : Nat} {o : sw_M} (g : sw_ok G cX11_copies "DeadWiresModel" none 1 0 0 ad) (hm : G.2.2.1.2.1.maxLocals = 5) (hk0 : ly31[k0]? = some (.inl (false, n0))) (hk1 : ly31[k1]? = some (.inl (false, n1))) (μ : sw_M) (ho : sw_out G 0 0 (fun a => a = ad) (.inl none) ly31 o ν) (a3 : Int32) (h : f_m_copies_ly31 N k0 n0 k1 n1 μ a3 = some o) : SW G ad ly31 ν 0 0 0 [some (.ref 63), some (.ref k0), some (.ref k1), some (.int a3), none] [] μ := by
  unfold f_m_copies_ly31 at h
  refine SW.iconst (pc := 0) (v := 0) g (dt dt_X11_copies 0 rfl) ki_0 ?_
  refine SW.istore (pc := 1) g (dt dt_X11_copies 1 rfl) (sw_ltm hm (Nat.le_of_ble_eq_true rfl)) rfl ?_
  refine SW.msk [false, true, true, true, true] ?_
  exact ok_f_m_copies_ly31_3 k0 n0 k1 n1 g hm hk0 hk1 ho   N μ a3 0 h
set_option maxRecDepth 100000 in
set_option maxHeartbeats 4000000 in
theorem mt_f_m_copies_ly31 (l : Launch) (D : va_G) (cI cL : ClassId) (ad : Nat → Nat) (ν : sw_N)  (k0 n0 : Nat) (k1 n1 : Nat) (hk0 : ly31[k0]? = some (.inl (false, n0))) (hk1 : ly31[k1]? = some (.inl (false, n1))) (N : Nat) (μ : sw_M) (a3 : Int32) (o : sw_M) (h : f_m_copies_ly31 N k0 n0 k1 n1 μ a3 = some o) : MetR l D cI cL yX11_copies cX11_copies 5 none 1 0 0 (fun a => a = ad) ad [.ref 63, .ref k0, .ref k1, .int a3] ly31 μ ν none ly31 o ν :=
  MetR.of (n := 1) rfl (Nat.le_of_ble_eq_true rfl) (fun G g ho hm _ _ => ok_f_m_copies_ly31 k0 n0 k1 n1 g hm hk0 hk1 μ ho a3 h)
def f_m_sets_ly31_234 (N : Nat)   : Nat → sw_M → Int32 → Option (sw_M)
  | 0, _, _ => none
  | n + 1, μ, x1 =>
    if (μ 63 24) ≤ x1 then
      inb 46 49 (wb (wr μ 80 (46 : Int32).toNatClampNeg (μ 63 20)) (fun μ2 =>
        some μ2))
    else
      inb ((2 : Int32) * x1) 10 (
        inb ((36 : Int32) + x1) 49 (wb (wr μ 80 ((36 : Int32) + x1).toNatClampNeg (μ 71 ((2 : Int32) * x1).toNatClampNeg)) (fun μ5 =>
          f_m_sets_ly31_234 N   n μ5 (x1 + 1))))
def f_m_sets_ly31_210 (N : Nat)   : Nat → sw_M → Int32 → Option (sw_M)
  | 0, _, _ => none
  | n + 1, μ, x1 =>
    if 6 ≤ x1 then
      f_m_sets_ly31_234 N   N μ 0
    else
      inb ((30 : Int32) + x1) 49 (wb (wr μ 80 ((30 : Int32) + x1).toNatClampNeg (-1)) (fun μ2 =>
        f_m_sets_ly31_210 N   n μ2 (x1 + 1)))
def f_m_sets_ly31_177 (N : Nat)   : Nat → sw_M → Int32 → Option (sw_M)
  | 0, _, _ => none
  | n + 1, μ, x1 =>
    if (μ 63 23) ≤ x1 then
      f_m_sets_ly31_210 N   N μ 0
    else
      inb ((2 : Int32) * x1) 12 (
        inb ((24 : Int32) + x1) 49 (wb (wr μ 80 ((24 : Int32) + x1).toNatClampNeg (μ 70 ((2 : Int32) * x1).toNatClampNeg)) (fun μ3 =>
          f_m_sets_ly31_177 N   n μ3 (x1 + 1))))
def f_m_sets_ly31_143 (N : Nat)   : Nat → sw_M → Int32 → Option (sw_M)
  | 0, _, _ => none
  | n + 1, μ, x1 =>
    if (μ 63 22) ≤ x1 then
      f_m_sets_ly31_177 N   N μ 0
    else
      inb (((3 : Int32) * x1) + 2) 36 (
        inb ((0 : Int32) + x1) 49 (wb (wr μ 80 ((0 : Int32) + x1).toNatClampNeg (μ 69 (((3 : Int32) * x1) + 2).toNatClampNeg)) (fun μ3 =>
          f_m_sets_ly31_143 N   n μ3 (x1 + 1))))
def f_m_sets_ly31_122 (N : Nat)   : Nat → sw_M → Int32 → Option (sw_M)
  | 0, _, _ => none
  | n + 1, μ, x1 =>
    if 49 ≤ x1 then
      f_m_sets_ly31_143 N   N μ 0
    else
      inb x1 49 (wb (wr μ 80 x1.toNatClampNeg 0) (fun μ2 =>
        f_m_sets_ly31_122 N   n μ2 (x1 + 1)))
def f_m_sets_ly31_101 (N : Nat)   : Nat → sw_M → Int32 → Option (sw_M)
  | 0, _, _ => none
  | n + 1, μ, x1 =>
    if 40 < x1 then
      f_m_sets_ly31_122 N   N μ 0
    else
      inb x1 41 (wb (wr μ 84 x1.toNatClampNeg (-1)) (fun μ2 =>
        f_m_sets_ly31_101 N   n μ2 (x1 + 1)))
def f_m_sets_ly31 (N : Nat)  (μ : sw_M)  : Option (sw_M) :=
  wb (wr μ 63 21 (μ 63 16)) (fun μ1 =>
    wb (wr μ1 63 22 (μ1 63 17)) (fun μ2 =>
      wb (wr μ2 63 23 (μ2 63 18)) (fun μ3 =>
        wb (wr μ3 63 24 (μ3 63 19)) (fun μ4 =>
          Option.bind (f_m_copies_ly31 N 66 36 69 36 μ4 36) (fun r5 =>
            Option.bind (f_m_copies_ly31 N 67 12 70 12 r5 12) (fun r7 =>
              Option.bind (f_m_copies_ly31 N 68 10 71 10 r7 10) (fun r9 =>
                wb (wr r9 63 31 0) (fun μ11 =>
                  wb (wr μ11 63 46 0) (fun μ12 =>
                    wb (wr μ12 63 36 0) (fun μ13 =>
                      wb (wr μ13 63 50 0) (fun μ14 =>
                        wb (wr μ14 63 37 0) (fun μ15 =>
                          f_m_sets_ly31_101 N   N μ15 0))))))))))))
set_option maxRecDepth 100000 in
set_option maxHeartbeats 4000000 in
theorem ok_f_m_sets_ly31_234 {G : sw_G} {ad : Nat → Nat} {ν : sw_N}   {N : Nat} {o : sw_M} (g : sw_ok G cX11_sets "DeadWiresModel" none 2 0 0 ad) (hm : G.2.2.1.2.1.maxLocals = 2)  (ho : sw_out G 0 0 (fun a => a = ad) (.inl none) ly31 o ν)  : ∀ (n : Nat) (μ : sw_M) (x1 : Int32) (h : f_m_sets_ly31_234 N   n μ x1 = some o), SW G ad ly31 ν 0 0 234 [some (.ref 63), some (.int x1)] [] μ := by
  intro n
  induction n with
  | zero => intro μ x1 h; simp only [f_m_sets_ly31_234] at h; cases h
  | succ n ih =>
    intro μ x1 h
    unfold f_m_sets_ly31_234 at h
    refine SW.iload_n (pc := 234) g (dt dt_X11_sets 134 rfl) rfl ?_
    refine SW.aload_n (pc := 235) g (dt dt_X11_sets 135 rfl) rfl ?_
    refine SW.getI (pc := 236) g (dt dt_X11_sets 136 rfl) fl_X11_162 rfl rfl ?_
    refine SW.icmp_ge (pc := 239) (t := 265) g (dt dt_X11_sets 137 rfl) rfl (fun hc => ?_) (fun hc => ?_)
    · have h := iteT hc h
      refine SW.aload_n (pc := 265) g (dt dt_X11_sets 152 rfl) rfl ?_
      refine SW.getR (pc := 266) g (dt dt_X11_sets 153 rfl) fl_X11_65 rfl rfl ?_
      refine SW.bipush (pc := 269) (v := 46) g (dt dt_X11_sets 154 rfl) kb_46 ?_
      refine SW.aload_n (pc := 271) g (dt dt_X11_sets 155 rfl) rfl ?_
      refine SW.getI (pc := 272) g (dt dt_X11_sets 156 rfl) fl_X11_150 rfl rfl ?_
      obtain ⟨hb1, h⟩ := inbI h
      refine SW.iastore (pc := 275) g (dt dt_X11_sets 157 rfl) rfl hb1 ?_
      refine SW.genM h (fun μ2 h => ?_)
      exact SW.vreturn (pc := 276) g (leafV h ho) rfl (Nat.le_of_ble_eq_true rfl) (Nat.le_of_ble_eq_true rfl) (dt dt_X11_sets 158 rfl)
    · have h := iteF hc h
      refine SW.aload_n (pc := 242) g (dt dt_X11_sets 138 rfl) rfl ?_
      refine SW.getR (pc := 243) g (dt dt_X11_sets 139 rfl) fl_X11_65 rfl rfl ?_
      refine SW.bipush (pc := 246) (v := 36) g (dt dt_X11_sets 140 rfl) kb_36 ?_
      refine SW.iload_n (pc := 248) g (dt dt_X11_sets 141 rfl) rfl ?_
      refine SW.iadd (pc := 249) g (dt dt_X11_sets 142 rfl) ?_
      refine SW.aload_n (pc := 250) g (dt dt_X11_sets 143 rfl) rfl ?_
      refine SW.getR (pc := 251) g (dt dt_X11_sets 144 rfl) fl_X11_38 rfl rfl ?_
      refine SW.iconst (pc := 254) (v := 2) g (dt dt_X11_sets 145 rfl) ki_2 ?_
      refine SW.iload_n (pc := 255) g (dt dt_X11_sets 146 rfl) rfl ?_
      refine SW.imul (pc := 256) g (dt dt_X11_sets 147 rfl) ?_
      obtain ⟨hb3, h⟩ := inbI h
      refine SW.iaload (pc := 257) g (dt dt_X11_sets 148 rfl) rfl hb3 ?_
      obtain ⟨hb4, h⟩ := inbI h
      refine SW.iastore (pc := 258) g (dt dt_X11_sets 149 rfl) rfl hb4 ?_
      refine SW.genM h (fun μ5 h => ?_)
      refine SW.iinc (pc := 259) (v := x1 + 1) g (dt dt_X11_sets 150 rfl) rfl (kn_1 _) (sw_ltm hm (Nat.le_of_ble_eq_true rfl)) rfl ?_
      refine SW.goto (pc := 262) (t := 234) g (dt dt_X11_sets 151 rfl) rfl ?_
      refine SW.msk [true, true] ?_
      exact ih μ5 (x1 + 1) h
set_option maxRecDepth 100000 in
set_option maxHeartbeats 4000000 in
theorem ok_f_m_sets_ly31_210 {G : sw_G} {ad : Nat → Nat} {ν : sw_N}   {N : Nat} {o : sw_M} (g : sw_ok G cX11_sets "DeadWiresModel" none 2 0 0 ad) (hm : G.2.2.1.2.1.maxLocals = 2)  (ho : sw_out G 0 0 (fun a => a = ad) (.inl none) ly31 o ν)  : ∀ (n : Nat) (μ : sw_M) (x1 : Int32) (h : f_m_sets_ly31_210 N   n μ x1 = some o), SW G ad ly31 ν 0 0 210 [some (.ref 63), some (.int x1)] [] μ := by
  intro n
  induction n with
  | zero => intro μ x1 h; simp only [f_m_sets_ly31_210] at h; cases h
  | succ n ih =>
    intro μ x1 h
    unfold f_m_sets_ly31_210 at h
    refine SW.iload_n (pc := 210) g (dt dt_X11_sets 120 rfl) rfl ?_
    refine SW.bipush (pc := 211) (v := 6) g (dt dt_X11_sets 121 rfl) kb_6 ?_
    refine SW.icmp_ge (pc := 213) (t := 232) g (dt dt_X11_sets 122 rfl) rfl (fun hc => ?_) (fun hc => ?_)
    · have h := iteT hc h
      refine SW.iconst (pc := 232) (v := 0) g (dt dt_X11_sets 132 rfl) ki_0 ?_
      refine SW.istore_n (pc := 233) g (dt dt_X11_sets 133 rfl) (sw_ltm hm (Nat.le_of_ble_eq_true rfl)) rfl ?_
      refine SW.msk [true, true] ?_
      exact ok_f_m_sets_ly31_234  g hm  ho   N μ 0 h
    · have h := iteF hc h
      refine SW.aload_n (pc := 216) g (dt dt_X11_sets 123 rfl) rfl ?_
      refine SW.getR (pc := 217) g (dt dt_X11_sets 124 rfl) fl_X11_65 rfl rfl ?_
      refine SW.bipush (pc := 220) (v := 30) g (dt dt_X11_sets 125 rfl) kb_30 ?_
      refine SW.iload_n (pc := 222) g (dt dt_X11_sets 126 rfl) rfl ?_
      refine SW.iadd (pc := 223) g (dt dt_X11_sets 127 rfl) ?_
      refine SW.iconst (pc := 224) (v := (-1)) g (dt dt_X11_sets 128 rfl) ki_m1 ?_
      obtain ⟨hb1, h⟩ := inbI h
      refine SW.iastore (pc := 225) g (dt dt_X11_sets 129 rfl) rfl hb1 ?_
      refine SW.genM h (fun μ2 h => ?_)
      refine SW.iinc (pc := 226) (v := x1 + 1) g (dt dt_X11_sets 130 rfl) rfl (kn_1 _) (sw_ltm hm (Nat.le_of_ble_eq_true rfl)) rfl ?_
      refine SW.goto (pc := 229) (t := 210) g (dt dt_X11_sets 131 rfl) rfl ?_
      refine SW.msk [true, true] ?_
      exact ih μ2 (x1 + 1) h
set_option maxRecDepth 100000 in
set_option maxHeartbeats 4000000 in
theorem ok_f_m_sets_ly31_177 {G : sw_G} {ad : Nat → Nat} {ν : sw_N}   {N : Nat} {o : sw_M} (g : sw_ok G cX11_sets "DeadWiresModel" none 2 0 0 ad) (hm : G.2.2.1.2.1.maxLocals = 2)  (ho : sw_out G 0 0 (fun a => a = ad) (.inl none) ly31 o ν)  : ∀ (n : Nat) (μ : sw_M) (x1 : Int32) (h : f_m_sets_ly31_177 N   n μ x1 = some o), SW G ad ly31 ν 0 0 177 [some (.ref 63), some (.int x1)] [] μ := by
  intro n
  induction n with
  | zero => intro μ x1 h; simp only [f_m_sets_ly31_177] at h; cases h
  | succ n ih =>
    intro μ x1 h
    unfold f_m_sets_ly31_177 at h
    refine SW.iload_n (pc := 177) g (dt dt_X11_sets 100 rfl) rfl ?_
    refine SW.aload_n (pc := 178) g (dt dt_X11_sets 101 rfl) rfl ?_
    refine SW.getI (pc := 179) g (dt dt_X11_sets 102 rfl) fl_X11_159 rfl rfl ?_
    refine SW.icmp_ge (pc := 182) (t := 208) g (dt dt_X11_sets 103 rfl) rfl (fun hc => ?_) (fun hc => ?_)
    · have h := iteT hc h
      refine SW.iconst (pc := 208) (v := 0) g (dt dt_X11_sets 118 rfl) ki_0 ?_
      refine SW.istore_n (pc := 209) g (dt dt_X11_sets 119 rfl) (sw_ltm hm (Nat.le_of_ble_eq_true rfl)) rfl ?_
      refine SW.msk [true, true] ?_
      exact ok_f_m_sets_ly31_210  g hm  ho   N μ 0 h
    · have h := iteF hc h
      refine SW.aload_n (pc := 185) g (dt dt_X11_sets 104 rfl) rfl ?_
      refine SW.getR (pc := 186) g (dt dt_X11_sets 105 rfl) fl_X11_65 rfl rfl ?_
      refine SW.bipush (pc := 189) (v := 24) g (dt dt_X11_sets 106 rfl) kb_24 ?_
      refine SW.iload_n (pc := 191) g (dt dt_X11_sets 107 rfl) rfl ?_
      refine SW.iadd (pc := 192) g (dt dt_X11_sets 108 rfl) ?_
      refine SW.aload_n (pc := 193) g (dt dt_X11_sets 109 rfl) rfl ?_
      refine SW.getR (pc := 194) g (dt dt_X11_sets 110 rfl) fl_X11_35 rfl rfl ?_
      refine SW.iconst (pc := 197) (v := 2) g (dt dt_X11_sets 111 rfl) ki_2 ?_
      refine SW.iload_n (pc := 198) g (dt dt_X11_sets 112 rfl) rfl ?_
      refine SW.imul (pc := 199) g (dt dt_X11_sets 113 rfl) ?_
      obtain ⟨hb1, h⟩ := inbI h
      refine SW.iaload (pc := 200) g (dt dt_X11_sets 114 rfl) rfl hb1 ?_
      obtain ⟨hb2, h⟩ := inbI h
      refine SW.iastore (pc := 201) g (dt dt_X11_sets 115 rfl) rfl hb2 ?_
      refine SW.genM h (fun μ3 h => ?_)
      refine SW.iinc (pc := 202) (v := x1 + 1) g (dt dt_X11_sets 116 rfl) rfl (kn_1 _) (sw_ltm hm (Nat.le_of_ble_eq_true rfl)) rfl ?_
      refine SW.goto (pc := 205) (t := 177) g (dt dt_X11_sets 117 rfl) rfl ?_
      refine SW.msk [true, true] ?_
      exact ih μ3 (x1 + 1) h
set_option maxRecDepth 100000 in
set_option maxHeartbeats 4000000 in
theorem ok_f_m_sets_ly31_143 {G : sw_G} {ad : Nat → Nat} {ν : sw_N}   {N : Nat} {o : sw_M} (g : sw_ok G cX11_sets "DeadWiresModel" none 2 0 0 ad) (hm : G.2.2.1.2.1.maxLocals = 2)  (ho : sw_out G 0 0 (fun a => a = ad) (.inl none) ly31 o ν)  : ∀ (n : Nat) (μ : sw_M) (x1 : Int32) (h : f_m_sets_ly31_143 N   n μ x1 = some o), SW G ad ly31 ν 0 0 143 [some (.ref 63), some (.int x1)] [] μ := by
  intro n
  induction n with
  | zero => intro μ x1 h; simp only [f_m_sets_ly31_143] at h; cases h
  | succ n ih =>
    intro μ x1 h
    unfold f_m_sets_ly31_143 at h
    refine SW.iload_n (pc := 143) g (dt dt_X11_sets 78 rfl) rfl ?_
    refine SW.aload_n (pc := 144) g (dt dt_X11_sets 79 rfl) rfl ?_
    refine SW.getI (pc := 145) g (dt dt_X11_sets 80 rfl) fl_X11_156 rfl rfl ?_
    refine SW.icmp_ge (pc := 148) (t := 175) g (dt dt_X11_sets 81 rfl) rfl (fun hc => ?_) (fun hc => ?_)
    · have h := iteT hc h
      refine SW.iconst (pc := 175) (v := 0) g (dt dt_X11_sets 98 rfl) ki_0 ?_
      refine SW.istore_n (pc := 176) g (dt dt_X11_sets 99 rfl) (sw_ltm hm (Nat.le_of_ble_eq_true rfl)) rfl ?_
      refine SW.msk [true, true] ?_
      exact ok_f_m_sets_ly31_177  g hm  ho   N μ 0 h
    · have h := iteF hc h
      refine SW.aload_n (pc := 151) g (dt dt_X11_sets 82 rfl) rfl ?_
      refine SW.getR (pc := 152) g (dt dt_X11_sets 83 rfl) fl_X11_65 rfl rfl ?_
      refine SW.iconst (pc := 155) (v := 0) g (dt dt_X11_sets 84 rfl) ki_0 ?_
      refine SW.iload_n (pc := 156) g (dt dt_X11_sets 85 rfl) rfl ?_
      refine SW.iadd (pc := 157) g (dt dt_X11_sets 86 rfl) ?_
      refine SW.aload_n (pc := 158) g (dt dt_X11_sets 87 rfl) rfl ?_
      refine SW.getR (pc := 159) g (dt dt_X11_sets 88 rfl) fl_X11_32 rfl rfl ?_
      refine SW.iconst (pc := 162) (v := 3) g (dt dt_X11_sets 89 rfl) ki_3 ?_
      refine SW.iload_n (pc := 163) g (dt dt_X11_sets 90 rfl) rfl ?_
      refine SW.imul (pc := 164) g (dt dt_X11_sets 91 rfl) ?_
      refine SW.iconst (pc := 165) (v := 2) g (dt dt_X11_sets 92 rfl) ki_2 ?_
      refine SW.iadd (pc := 166) g (dt dt_X11_sets 93 rfl) ?_
      obtain ⟨hb1, h⟩ := inbI h
      refine SW.iaload (pc := 167) g (dt dt_X11_sets 94 rfl) rfl hb1 ?_
      obtain ⟨hb2, h⟩ := inbI h
      refine SW.iastore (pc := 168) g (dt dt_X11_sets 95 rfl) rfl hb2 ?_
      refine SW.genM h (fun μ3 h => ?_)
      refine SW.iinc (pc := 169) (v := x1 + 1) g (dt dt_X11_sets 96 rfl) rfl (kn_1 _) (sw_ltm hm (Nat.le_of_ble_eq_true rfl)) rfl ?_
      refine SW.goto (pc := 172) (t := 143) g (dt dt_X11_sets 97 rfl) rfl ?_
      refine SW.msk [true, true] ?_
      exact ih μ3 (x1 + 1) h
set_option maxRecDepth 100000 in
set_option maxHeartbeats 4000000 in
theorem ok_f_m_sets_ly31_122 {G : sw_G} {ad : Nat → Nat} {ν : sw_N}   {N : Nat} {o : sw_M} (g : sw_ok G cX11_sets "DeadWiresModel" none 2 0 0 ad) (hm : G.2.2.1.2.1.maxLocals = 2)  (ho : sw_out G 0 0 (fun a => a = ad) (.inl none) ly31 o ν)  : ∀ (n : Nat) (μ : sw_M) (x1 : Int32) (h : f_m_sets_ly31_122 N   n μ x1 = some o), SW G ad ly31 ν 0 0 122 [some (.ref 63), some (.int x1)] [] μ := by
  intro n
  induction n with
  | zero => intro μ x1 h; simp only [f_m_sets_ly31_122] at h; cases h
  | succ n ih =>
    intro μ x1 h
    unfold f_m_sets_ly31_122 at h
    refine SW.iload_n (pc := 122) g (dt dt_X11_sets 66 rfl) rfl ?_
    refine SW.bipush (pc := 123) (v := 49) g (dt dt_X11_sets 67 rfl) kb_49 ?_
    refine SW.icmp_ge (pc := 125) (t := 141) g (dt dt_X11_sets 68 rfl) rfl (fun hc => ?_) (fun hc => ?_)
    · have h := iteT hc h
      refine SW.iconst (pc := 141) (v := 0) g (dt dt_X11_sets 76 rfl) ki_0 ?_
      refine SW.istore_n (pc := 142) g (dt dt_X11_sets 77 rfl) (sw_ltm hm (Nat.le_of_ble_eq_true rfl)) rfl ?_
      refine SW.msk [true, true] ?_
      exact ok_f_m_sets_ly31_143  g hm  ho   N μ 0 h
    · have h := iteF hc h
      refine SW.aload_n (pc := 128) g (dt dt_X11_sets 69 rfl) rfl ?_
      refine SW.getR (pc := 129) g (dt dt_X11_sets 70 rfl) fl_X11_65 rfl rfl ?_
      refine SW.iload_n (pc := 132) g (dt dt_X11_sets 71 rfl) rfl ?_
      refine SW.iconst (pc := 133) (v := 0) g (dt dt_X11_sets 72 rfl) ki_0 ?_
      obtain ⟨hb1, h⟩ := inbI h
      refine SW.iastore (pc := 134) g (dt dt_X11_sets 73 rfl) rfl hb1 ?_
      refine SW.genM h (fun μ2 h => ?_)
      refine SW.iinc (pc := 135) (v := x1 + 1) g (dt dt_X11_sets 74 rfl) rfl (kn_1 _) (sw_ltm hm (Nat.le_of_ble_eq_true rfl)) rfl ?_
      refine SW.goto (pc := 138) (t := 122) g (dt dt_X11_sets 75 rfl) rfl ?_
      refine SW.msk [true, true] ?_
      exact ih μ2 (x1 + 1) h
set_option maxRecDepth 100000 in
set_option maxHeartbeats 4000000 in
theorem ok_f_m_sets_ly31_101 {G : sw_G} {ad : Nat → Nat} {ν : sw_N}   {N : Nat} {o : sw_M} (g : sw_ok G cX11_sets "DeadWiresModel" none 2 0 0 ad) (hm : G.2.2.1.2.1.maxLocals = 2)  (ho : sw_out G 0 0 (fun a => a = ad) (.inl none) ly31 o ν)  : ∀ (n : Nat) (μ : sw_M) (x1 : Int32) (h : f_m_sets_ly31_101 N   n μ x1 = some o), SW G ad ly31 ν 0 0 101 [some (.ref 63), some (.int x1)] [] μ := by
  intro n
  induction n with
  | zero => intro μ x1 h; simp only [f_m_sets_ly31_101] at h; cases h
  | succ n ih =>
    intro μ x1 h
    unfold f_m_sets_ly31_101 at h
    refine SW.iload_n (pc := 101) g (dt dt_X11_sets 54 rfl) rfl ?_
    refine SW.bipush (pc := 102) (v := 40) g (dt dt_X11_sets 55 rfl) kb_40 ?_
    refine SW.icmp_gt (pc := 104) (t := 120) g (dt dt_X11_sets 56 rfl) rfl (fun hc => ?_) (fun hc => ?_)
    · have h := iteT hc h
      refine SW.iconst (pc := 120) (v := 0) g (dt dt_X11_sets 64 rfl) ki_0 ?_
      refine SW.istore_n (pc := 121) g (dt dt_X11_sets 65 rfl) (sw_ltm hm (Nat.le_of_ble_eq_true rfl)) rfl ?_
      refine SW.msk [true, true] ?_
      exact ok_f_m_sets_ly31_122  g hm  ho   N μ 0 h
    · have h := iteF hc h
      refine SW.aload_n (pc := 107) g (dt dt_X11_sets 57 rfl) rfl ?_
      refine SW.getR (pc := 108) g (dt dt_X11_sets 58 rfl) fl_X11_77 rfl rfl ?_
      refine SW.iload_n (pc := 111) g (dt dt_X11_sets 59 rfl) rfl ?_
      refine SW.iconst (pc := 112) (v := (-1)) g (dt dt_X11_sets 60 rfl) ki_m1 ?_
      obtain ⟨hb1, h⟩ := inbI h
      refine SW.iastore (pc := 113) g (dt dt_X11_sets 61 rfl) rfl hb1 ?_
      refine SW.genM h (fun μ2 h => ?_)
      refine SW.iinc (pc := 114) (v := x1 + 1) g (dt dt_X11_sets 62 rfl) rfl (kn_1 _) (sw_ltm hm (Nat.le_of_ble_eq_true rfl)) rfl ?_
      refine SW.goto (pc := 117) (t := 101) g (dt dt_X11_sets 63 rfl) rfl ?_
      refine SW.msk [true, true] ?_
      exact ih μ2 (x1 + 1) h
set_option maxRecDepth 100000 in
set_option maxHeartbeats 4000000 in
theorem ok_f_m_sets_ly31 {G : sw_G} {ad : Nat → Nat} {ν : sw_N}   {N : Nat} {o : sw_M} (g : sw_ok G cX11_sets "DeadWiresModel" none 2 0 0 ad) (hm : G.2.2.1.2.1.maxLocals = 2)  (μ : sw_M) (ho : sw_out G 0 0 (fun a => a = ad) (.inl none) ly31 o ν)  (h : f_m_sets_ly31 N  μ  = some o) : SW G ad ly31 ν 0 0 0 [some (.ref 63), none] [] μ := by
  unfold f_m_sets_ly31 at h
  refine SW.aload_n (pc := 0) g (dt dt_X11_sets 0 rfl) rfl ?_
  refine SW.aload_n (pc := 1) g (dt dt_X11_sets 1 rfl) rfl ?_
  refine SW.getI (pc := 2) g (dt dt_X11_sets 2 rfl) fl_X11_138 rfl rfl ?_
  refine SW.putI (pc := 5) g (dt dt_X11_sets 3 rfl) fl_X11_153 rfl rfl ?_
  refine SW.genM h (fun μ1 h => ?_)
  refine SW.aload_n (pc := 8) g (dt dt_X11_sets 4 rfl) rfl ?_
  refine SW.aload_n (pc := 9) g (dt dt_X11_sets 5 rfl) rfl ?_
  refine SW.getI (pc := 10) g (dt dt_X11_sets 6 rfl) fl_X11_141 rfl rfl ?_
  refine SW.putI (pc := 13) g (dt dt_X11_sets 7 rfl) fl_X11_156 rfl rfl ?_
  refine SW.genM h (fun μ2 h => ?_)
  refine SW.aload_n (pc := 16) g (dt dt_X11_sets 8 rfl) rfl ?_
  refine SW.aload_n (pc := 17) g (dt dt_X11_sets 9 rfl) rfl ?_
  refine SW.getI (pc := 18) g (dt dt_X11_sets 10 rfl) fl_X11_144 rfl rfl ?_
  refine SW.putI (pc := 21) g (dt dt_X11_sets 11 rfl) fl_X11_159 rfl rfl ?_
  refine SW.genM h (fun μ3 h => ?_)
  refine SW.aload_n (pc := 24) g (dt dt_X11_sets 12 rfl) rfl ?_
  refine SW.aload_n (pc := 25) g (dt dt_X11_sets 13 rfl) rfl ?_
  refine SW.getI (pc := 26) g (dt dt_X11_sets 14 rfl) fl_X11_147 rfl rfl ?_
  refine SW.putI (pc := 29) g (dt dt_X11_sets 15 rfl) fl_X11_162 rfl rfl ?_
  refine SW.genM h (fun μ4 h => ?_)
  refine SW.aload_n (pc := 32) g (dt dt_X11_sets 16 rfl) rfl ?_
  refine SW.aload_n (pc := 33) g (dt dt_X11_sets 17 rfl) rfl ?_
  refine SW.getR (pc := 34) g (dt dt_X11_sets 18 rfl) fl_X11_23 rfl rfl ?_
  refine SW.aload_n (pc := 37) g (dt dt_X11_sets 19 rfl) rfl ?_
  refine SW.getR (pc := 38) g (dt dt_X11_sets 20 rfl) fl_X11_32 rfl rfl ?_
  refine SW.bipush (pc := 41) (v := 36) g (dt dt_X11_sets 21 rfl) kb_36 ?_
  obtain ⟨r5, h6, h⟩ := bindI h
  refine SW.callVv (pc := 43) g (dt dt_X11_sets 22 rfl) (mt_f_m_copies_ly31 _ _ _ _ ad ν 66 36 69 36 rfl rfl N μ4 36 r5 h6) me_X11_copies mv_X11_copies ml_X11_165 rfl rfl rfl (Nat.le_of_ble_eq_true rfl) (Nat.le_of_ble_eq_true rfl) (Nat.le_of_ble_eq_true rfl) (Nat.le_of_ble_eq_true rfl) rfl ?_
  refine SW.aload_n (pc := 46) g (dt dt_X11_sets 23 rfl) rfl ?_
  refine SW.aload_n (pc := 47) g (dt dt_X11_sets 24 rfl) rfl ?_
  refine SW.getR (pc := 48) g (dt dt_X11_sets 25 rfl) fl_X11_26 rfl rfl ?_
  refine SW.aload_n (pc := 51) g (dt dt_X11_sets 26 rfl) rfl ?_
  refine SW.getR (pc := 52) g (dt dt_X11_sets 27 rfl) fl_X11_35 rfl rfl ?_
  refine SW.bipush (pc := 55) (v := 12) g (dt dt_X11_sets 28 rfl) kb_12 ?_
  obtain ⟨r7, h8, h⟩ := bindI h
  refine SW.callVv (pc := 57) g (dt dt_X11_sets 29 rfl) (mt_f_m_copies_ly31 _ _ _ _ ad ν 67 12 70 12 rfl rfl N r5 12 r7 h8) me_X11_copies mv_X11_copies ml_X11_165 rfl rfl rfl (Nat.le_of_ble_eq_true rfl) (Nat.le_of_ble_eq_true rfl) (Nat.le_of_ble_eq_true rfl) (Nat.le_of_ble_eq_true rfl) rfl ?_
  refine SW.aload_n (pc := 60) g (dt dt_X11_sets 30 rfl) rfl ?_
  refine SW.aload_n (pc := 61) g (dt dt_X11_sets 31 rfl) rfl ?_
  refine SW.getR (pc := 62) g (dt dt_X11_sets 32 rfl) fl_X11_29 rfl rfl ?_
  refine SW.aload_n (pc := 65) g (dt dt_X11_sets 33 rfl) rfl ?_
  refine SW.getR (pc := 66) g (dt dt_X11_sets 34 rfl) fl_X11_38 rfl rfl ?_
  refine SW.bipush (pc := 69) (v := 10) g (dt dt_X11_sets 35 rfl) kb_10 ?_
  obtain ⟨r9, h10, h⟩ := bindI h
  refine SW.callVv (pc := 71) g (dt dt_X11_sets 36 rfl) (mt_f_m_copies_ly31 _ _ _ _ ad ν 68 10 71 10 rfl rfl N r7 10 r9 h10) me_X11_copies mv_X11_copies ml_X11_165 rfl rfl rfl (Nat.le_of_ble_eq_true rfl) (Nat.le_of_ble_eq_true rfl) (Nat.le_of_ble_eq_true rfl) (Nat.le_of_ble_eq_true rfl) rfl ?_
  refine SW.aload_n (pc := 74) g (dt dt_X11_sets 37 rfl) rfl ?_
  refine SW.iconst (pc := 75) (v := 0) g (dt dt_X11_sets 38 rfl) ki_0 ?_
  refine SW.putI (pc := 76) g (dt dt_X11_sets 39 rfl) fl_X11_169 rfl rfl ?_
  refine SW.genM h (fun μ11 h => ?_)
  refine SW.aload_n (pc := 79) g (dt dt_X11_sets 40 rfl) rfl ?_
  refine SW.iconst (pc := 80) (v := 0) g (dt dt_X11_sets 41 rfl) ki_0 ?_
  refine SW.putI (pc := 81) g (dt dt_X11_sets 42 rfl) fl_X11_172 rfl rfl ?_
  refine SW.genM h (fun μ12 h => ?_)
  refine SW.aload_n (pc := 84) g (dt dt_X11_sets 43 rfl) rfl ?_
  refine SW.iconst (pc := 85) (v := 0) g (dt dt_X11_sets 44 rfl) ki_0 ?_
  refine SW.putI (pc := 86) g (dt dt_X11_sets 45 rfl) fl_X11_175 rfl rfl ?_
  refine SW.genM h (fun μ13 h => ?_)
  refine SW.aload_n (pc := 89) g (dt dt_X11_sets 46 rfl) rfl ?_
  refine SW.iconst (pc := 90) (v := 0) g (dt dt_X11_sets 47 rfl) ki_0 ?_
  refine SW.putI (pc := 91) g (dt dt_X11_sets 48 rfl) fl_X11_178 rfl rfl ?_
  refine SW.genM h (fun μ14 h => ?_)
  refine SW.aload_n (pc := 94) g (dt dt_X11_sets 49 rfl) rfl ?_
  refine SW.iconst (pc := 95) (v := 0) g (dt dt_X11_sets 50 rfl) ki_0 ?_
  refine SW.putI (pc := 96) g (dt dt_X11_sets 51 rfl) fl_X11_181 rfl rfl ?_
  refine SW.genM h (fun μ15 h => ?_)
  refine SW.iconst (pc := 99) (v := 0) g (dt dt_X11_sets 52 rfl) ki_0 ?_
  refine SW.istore_n (pc := 100) g (dt dt_X11_sets 53 rfl) (sw_ltm hm (Nat.le_of_ble_eq_true rfl)) rfl ?_
  refine SW.msk [true, true] ?_
  exact ok_f_m_sets_ly31_101  g hm  ho   N μ15 0 h
set_option maxRecDepth 100000 in
set_option maxHeartbeats 4000000 in
theorem mt_f_m_sets_ly31 (l : Launch) (D : va_G) (cI cL : ClassId) (ad : Nat → Nat) (ν : sw_N)    (N : Nat) (μ : sw_M)  (o : sw_M) (h : f_m_sets_ly31 N  μ  = some o) : MetR l D cI cL yX11_sets cX11_sets 2 none 2 0 0 (fun a => a = ad) ad [.ref 63] ly31 μ ν none ly31 o ν :=
  MetR.of (n := 1) rfl (Nat.le_of_ble_eq_true rfl) (fun G g ho hm _ _ => ok_f_m_sets_ly31  g hm  μ ho  h)
def f_tape_init (N : Nat) (μ : sw_M) : Option sw_M :=
  wb (wrR μ 2 (fun _ => 0)) (fun μ1 =>
  wb (wr μ1 1 4 256) (fun μ2 =>
  wb (wr μ2 1 8 (-1)) (fun μ3 =>
  some μ3)))
set_option maxRecDepth 100000 in
set_option maxHeartbeats 8000000 in
theorem mtc_f_tape_init (l : Launch) (D : va_G) (cI cL : ClassId) (ad : Nat → Nat) (ν : sw_N) (N : Nat) (μ : sw_M) (o : sw_M) (h : f_tape_init N μ = some o) : MetR l D cI cL yX7_init cX7_init 1 none 1 1 600 (sw_ext 2 ad) ad [.ref 1] ly1 μ ν none ly2 o ν := by
  refine MetR.ofI (n := 0) rfl (Nat.le_of_ble_eq_true rfl) (fun G g ho hm hname => ?_)
  have hx : sw_ext 2 ad ad := sw_ext_rf
  unfold f_tape_init at h
  refine SW.aload_n (pc := 0) g (dt dt_X7_init 0 rfl) rfl ?_
  refine SW.objInit (pc := 1) g (dt dt_X7_init 1 rfl) (gtb_of (tbm_1 (List.mem_of_getElem? (i := 38) rfl)) rfl) oi_i oi_c (Nat.le_of_ble_eq_true rfl) (Nat.le_of_ble_eq_true rfl) ?_
  refine SW.aload_n (pc := 4) g (dt dt_X7_init 2 rfl) rfl ?_
  refine SW.sipush (pc := 5) (v := 600) g (dt dt_X7_init 3 rfl) ks_600 ?_
  refine SW.newa (pc := 8) (n := 2) (N := 600) g (dt dt_X7_init 4 rfl) (gtb_of (tbm_1 (List.mem_of_getElem? (i := 76) rfl)) rfl) (by decide) (by decide) (Nat.le_of_ble_eq_true rfl) rfl (Nat.le_of_ble_eq_true rfl) rfl rfl rfl (Nat.le_of_ble_eq_true rfl) (Nat.le_of_ble_eq_true rfl) (fun ad1 hx1 => ?_)
  have hx := sw_ext_trans hx hx1 (Nat.le_of_ble_eq_true rfl)
  have g := sw_ok_ext g hx1
  refine SW.genM h (fun μ1 h => ?_)
  refine SW.putR (pc := 10) g hname (dt dt_X7_init 5 rfl) fl_X7_9 rfl (sw_tyR cl_7 (Nat.le_of_ble_eq_true rfl) (fun _ => ⟨rfl, rfl⟩)) rfl (Nat.le_of_ble_eq_true rfl) ?_
  refine SW.aload_n (pc := 13) g (dt dt_X7_init 6 rfl) rfl ?_
  refine SW.sipush (pc := 14) (v := 256) g (dt dt_X7_init 7 rfl) ks_256 ?_
  refine SW.putI (pc := 17) g (dt dt_X7_init 8 rfl) fl_X7_15 rfl rfl ?_
  refine SW.genM h (fun μ2 h => ?_)
  refine SW.aload_n (pc := 20) g (dt dt_X7_init 9 rfl) rfl ?_
  refine SW.iconst (pc := 21) (v := (-1)) g (dt dt_X7_init 10 rfl) ki_m1 ?_
  refine SW.putI (pc := 22) g (dt dt_X7_init 11 rfl) fl_X7_19 rfl rfl ?_
  refine SW.genM h (fun μ3 h => ?_)
  exact SW.vreturn (pc := 25) g (leafV h ho) hx (Nat.le_of_ble_eq_true rfl) (Nat.le_of_ble_eq_true rfl) (dt dt_X7_init 12 rfl)

def f_land_init (N : Nat) (μ : sw_M) : Option sw_M :=
  wb (wr μ 3 4 2) (fun μ1 =>
  wb (wrR μ1 4 (fun _ => 0)) (fun μ2 =>
  wb (wrR μ2 5 (fun _ => 0)) (fun μ3 =>
  wb (wrR μ3 6 (fun _ => 0)) (fun μ4 =>
  wb (wrR μ4 7 (fun _ => 0)) (fun μ5 =>
  wb (wrR μ5 8 (fun _ => 0)) (fun μ6 =>
  wb (wrR μ6 9 (fun _ => 0)) (fun μ7 =>
  wb (wrR μ7 10 (fun _ => 0)) (fun μ8 =>
  some μ8))))))))
set_option maxRecDepth 100000 in
set_option maxHeartbeats 8000000 in
theorem mtc_f_land_init (l : Launch) (D : va_G) (cI cL : ClassId) (ad : Nat → Nat) (ν : sw_N) (N : Nat) (μ : sw_M) (o : sw_M) (h : f_land_init N μ = some o) : MetR l D cI cL yX4_init cX4_init 1 none 1 7 58 (sw_ext 4 ad) ad [.ref 3] ly3 μ ν none ly4 o ν := by
  refine MetR.ofI (n := 0) rfl (Nat.le_of_ble_eq_true rfl) (fun G g ho hm hname => ?_)
  have hx : sw_ext 4 ad ad := sw_ext_rf
  unfold f_land_init at h
  refine SW.aload_n (pc := 0) g (dt dt_X4_init 0 rfl) rfl ?_
  refine SW.objInit (pc := 1) g (dt dt_X4_init 1 rfl) (gtb_of (tbm_1 (List.mem_of_getElem? (i := 82) rfl)) rfl) oi_i oi_c (Nat.le_of_ble_eq_true rfl) (Nat.le_of_ble_eq_true rfl) ?_
  refine SW.aload_n (pc := 4) g (dt dt_X4_init 2 rfl) rfl ?_
  refine SW.iconst (pc := 5) (v := 2) g (dt dt_X4_init 3 rfl) ki_2 ?_
  refine SW.putI (pc := 6) g (dt dt_X4_init 4 rfl) fl_X4_11 rfl rfl ?_
  refine SW.genM h (fun μ1 h => ?_)
  refine SW.aload_n (pc := 9) g (dt dt_X4_init 5 rfl) rfl ?_
  refine SW.bipush (pc := 10) (v := 12) g (dt dt_X4_init 6 rfl) kb_12 ?_
  refine SW.newa (pc := 12) (n := 4) (N := 12) g (dt dt_X4_init 7 rfl) (gtb_of (tbm_1 (List.mem_of_getElem? (i := 76) rfl)) rfl) (by decide) (by decide) (Nat.le_of_ble_eq_true rfl) rfl (Nat.le_of_ble_eq_true rfl) rfl rfl rfl (Nat.le_of_ble_eq_true rfl) (Nat.le_of_ble_eq_true rfl) (fun ad1 hx1 => ?_)
  have hx := sw_ext_trans hx hx1 (Nat.le_of_ble_eq_true rfl)
  have g := sw_ok_ext g hx1
  refine SW.genM h (fun μ2 h => ?_)
  refine SW.putR (pc := 14) g hname (dt dt_X4_init 8 rfl) fl_X4_15 rfl (sw_tyR cl_4 (Nat.le_of_ble_eq_true rfl) (fun _ => ⟨rfl, rfl⟩)) rfl (Nat.le_of_ble_eq_true rfl) ?_
  refine SW.aload_n (pc := 17) g (dt dt_X4_init 9 rfl) rfl ?_
  refine SW.bipush (pc := 18) (v := 12) g (dt dt_X4_init 10 rfl) kb_12 ?_
  refine SW.newa (pc := 20) (n := 5) (N := 12) g (dt dt_X4_init 11 rfl) (gtb_of (tbm_1 (List.mem_of_getElem? (i := 76) rfl)) rfl) (by decide) (by decide) (Nat.le_of_ble_eq_true rfl) rfl (Nat.le_of_ble_eq_true rfl) rfl rfl rfl (Nat.le_of_ble_eq_true rfl) (Nat.le_of_ble_eq_true rfl) (fun ad1 hx1 => ?_)
  have hx := sw_ext_trans hx hx1 (Nat.le_of_ble_eq_true rfl)
  have g := sw_ok_ext g hx1
  refine SW.genM h (fun μ3 h => ?_)
  refine SW.putR (pc := 22) g hname (dt dt_X4_init 12 rfl) fl_X4_19 rfl (sw_tyR cl_4 (Nat.le_of_ble_eq_true rfl) (fun _ => ⟨rfl, rfl⟩)) rfl (Nat.le_of_ble_eq_true rfl) ?_
  refine SW.aload_n (pc := 25) g (dt dt_X4_init 13 rfl) rfl ?_
  refine SW.bipush (pc := 26) (v := 12) g (dt dt_X4_init 14 rfl) kb_12 ?_
  refine SW.newa (pc := 28) (n := 6) (N := 12) g (dt dt_X4_init 15 rfl) (gtb_of (tbm_1 (List.mem_of_getElem? (i := 76) rfl)) rfl) (by decide) (by decide) (Nat.le_of_ble_eq_true rfl) rfl (Nat.le_of_ble_eq_true rfl) rfl rfl rfl (Nat.le_of_ble_eq_true rfl) (Nat.le_of_ble_eq_true rfl) (fun ad1 hx1 => ?_)
  have hx := sw_ext_trans hx hx1 (Nat.le_of_ble_eq_true rfl)
  have g := sw_ok_ext g hx1
  refine SW.genM h (fun μ4 h => ?_)
  refine SW.putR (pc := 30) g hname (dt dt_X4_init 16 rfl) fl_X4_22 rfl (sw_tyR cl_4 (Nat.le_of_ble_eq_true rfl) (fun _ => ⟨rfl, rfl⟩)) rfl (Nat.le_of_ble_eq_true rfl) ?_
  refine SW.aload_n (pc := 33) g (dt dt_X4_init 17 rfl) rfl ?_
  refine SW.bipush (pc := 34) (v := 6) g (dt dt_X4_init 18 rfl) kb_6 ?_
  refine SW.newa (pc := 36) (n := 7) (N := 6) g (dt dt_X4_init 19 rfl) (gtb_of (tbm_1 (List.mem_of_getElem? (i := 76) rfl)) rfl) (by decide) (by decide) (Nat.le_of_ble_eq_true rfl) rfl (Nat.le_of_ble_eq_true rfl) rfl rfl rfl (Nat.le_of_ble_eq_true rfl) (Nat.le_of_ble_eq_true rfl) (fun ad1 hx1 => ?_)
  have hx := sw_ext_trans hx hx1 (Nat.le_of_ble_eq_true rfl)
  have g := sw_ok_ext g hx1
  refine SW.genM h (fun μ5 h => ?_)
  refine SW.putR (pc := 38) g hname (dt dt_X4_init 20 rfl) fl_X4_25 rfl (sw_tyR cl_4 (Nat.le_of_ble_eq_true rfl) (fun _ => ⟨rfl, rfl⟩)) rfl (Nat.le_of_ble_eq_true rfl) ?_
  refine SW.aload_n (pc := 41) g (dt dt_X4_init 21 rfl) rfl ?_
  refine SW.bipush (pc := 42) (v := 6) g (dt dt_X4_init 22 rfl) kb_6 ?_
  refine SW.newa (pc := 44) (n := 8) (N := 6) g (dt dt_X4_init 23 rfl) (gtb_of (tbm_1 (List.mem_of_getElem? (i := 76) rfl)) rfl) (by decide) (by decide) (Nat.le_of_ble_eq_true rfl) rfl (Nat.le_of_ble_eq_true rfl) rfl rfl rfl (Nat.le_of_ble_eq_true rfl) (Nat.le_of_ble_eq_true rfl) (fun ad1 hx1 => ?_)
  have hx := sw_ext_trans hx hx1 (Nat.le_of_ble_eq_true rfl)
  have g := sw_ok_ext g hx1
  refine SW.genM h (fun μ6 h => ?_)
  refine SW.putR (pc := 46) g hname (dt dt_X4_init 24 rfl) fl_X4_28 rfl (sw_tyR cl_4 (Nat.le_of_ble_eq_true rfl) (fun _ => ⟨rfl, rfl⟩)) rfl (Nat.le_of_ble_eq_true rfl) ?_
  refine SW.aload_n (pc := 49) g (dt dt_X4_init 25 rfl) rfl ?_
  refine SW.iconst (pc := 50) (v := 5) g (dt dt_X4_init 26 rfl) ki_5 ?_
  refine SW.newa (pc := 51) (n := 9) (N := 5) g (dt dt_X4_init 27 rfl) (gtb_of (tbm_1 (List.mem_of_getElem? (i := 76) rfl)) rfl) (by decide) (by decide) (Nat.le_of_ble_eq_true rfl) rfl (Nat.le_of_ble_eq_true rfl) rfl rfl rfl (Nat.le_of_ble_eq_true rfl) (Nat.le_of_ble_eq_true rfl) (fun ad1 hx1 => ?_)
  have hx := sw_ext_trans hx hx1 (Nat.le_of_ble_eq_true rfl)
  have g := sw_ok_ext g hx1
  refine SW.genM h (fun μ7 h => ?_)
  refine SW.putR (pc := 53) g hname (dt dt_X4_init 28 rfl) fl_X4_31 rfl (sw_tyR cl_4 (Nat.le_of_ble_eq_true rfl) (fun _ => ⟨rfl, rfl⟩)) rfl (Nat.le_of_ble_eq_true rfl) ?_
  refine SW.aload_n (pc := 56) g (dt dt_X4_init 29 rfl) rfl ?_
  refine SW.iconst (pc := 57) (v := 5) g (dt dt_X4_init 30 rfl) ki_5 ?_
  refine SW.newa (pc := 58) (n := 10) (N := 5) g (dt dt_X4_init 31 rfl) (gtb_of (tbm_1 (List.mem_of_getElem? (i := 76) rfl)) rfl) (by decide) (by decide) (Nat.le_of_ble_eq_true rfl) rfl (Nat.le_of_ble_eq_true rfl) rfl rfl rfl (Nat.le_of_ble_eq_true rfl) (Nat.le_of_ble_eq_true rfl) (fun ad1 hx1 => ?_)
  have hx := sw_ext_trans hx hx1 (Nat.le_of_ble_eq_true rfl)
  have g := sw_ok_ext g hx1
  refine SW.genM h (fun μ8 h => ?_)
  refine SW.putR (pc := 60) g hname (dt dt_X4_init 32 rfl) fl_X4_34 rfl (sw_tyR cl_4 (Nat.le_of_ble_eq_true rfl) (fun _ => ⟨rfl, rfl⟩)) rfl (Nat.le_of_ble_eq_true rfl) ?_
  exact SW.vreturn (pc := 63) g (leafV h ho) hx (Nat.le_of_ble_eq_true rfl) (Nat.le_of_ble_eq_true rfl) (dt dt_X4_init 33 rfl)

def f_landR_init (N : Nat) (μ : sw_M) : Option sw_M :=
  wb (wr μ 11 4 2) (fun μ1 =>
  wb (wrR μ1 12 (fun _ => 0)) (fun μ2 =>
  wb (wrR μ2 13 (fun _ => 0)) (fun μ3 =>
  wb (wrR μ3 14 (fun _ => 0)) (fun μ4 =>
  wb (wrR μ4 15 (fun _ => 0)) (fun μ5 =>
  wb (wrR μ5 16 (fun _ => 0)) (fun μ6 =>
  wb (wrR μ6 17 (fun _ => 0)) (fun μ7 =>
  wb (wrR μ7 18 (fun _ => 0)) (fun μ8 =>
  some μ8))))))))
set_option maxRecDepth 100000 in
set_option maxHeartbeats 8000000 in
theorem mtc_f_landR_init (l : Launch) (D : va_G) (cI cL : ClassId) (ad : Nat → Nat) (ν : sw_N) (N : Nat) (μ : sw_M) (o : sw_M) (h : f_landR_init N μ = some o) : MetR l D cI cL yX4_init cX4_init 1 none 1 7 58 (sw_ext 12 ad) ad [.ref 11] ly5 μ ν none ly6 o ν := by
  refine MetR.ofI (n := 0) rfl (Nat.le_of_ble_eq_true rfl) (fun G g ho hm hname => ?_)
  have hx : sw_ext 12 ad ad := sw_ext_rf
  unfold f_landR_init at h
  refine SW.aload_n (pc := 0) g (dt dt_X4_init 0 rfl) rfl ?_
  refine SW.objInit (pc := 1) g (dt dt_X4_init 1 rfl) (gtb_of (tbm_1 (List.mem_of_getElem? (i := 82) rfl)) rfl) oi_i oi_c (Nat.le_of_ble_eq_true rfl) (Nat.le_of_ble_eq_true rfl) ?_
  refine SW.aload_n (pc := 4) g (dt dt_X4_init 2 rfl) rfl ?_
  refine SW.iconst (pc := 5) (v := 2) g (dt dt_X4_init 3 rfl) ki_2 ?_
  refine SW.putI (pc := 6) g (dt dt_X4_init 4 rfl) fl_X4_11 rfl rfl ?_
  refine SW.genM h (fun μ1 h => ?_)
  refine SW.aload_n (pc := 9) g (dt dt_X4_init 5 rfl) rfl ?_
  refine SW.bipush (pc := 10) (v := 12) g (dt dt_X4_init 6 rfl) kb_12 ?_
  refine SW.newa (pc := 12) (n := 12) (N := 12) g (dt dt_X4_init 7 rfl) (gtb_of (tbm_1 (List.mem_of_getElem? (i := 76) rfl)) rfl) (by decide) (by decide) (Nat.le_of_ble_eq_true rfl) rfl (Nat.le_of_ble_eq_true rfl) rfl rfl rfl (Nat.le_of_ble_eq_true rfl) (Nat.le_of_ble_eq_true rfl) (fun ad1 hx1 => ?_)
  have hx := sw_ext_trans hx hx1 (Nat.le_of_ble_eq_true rfl)
  have g := sw_ok_ext g hx1
  refine SW.genM h (fun μ2 h => ?_)
  refine SW.putR (pc := 14) g hname (dt dt_X4_init 8 rfl) fl_X4_15 rfl (sw_tyR cl_4 (Nat.le_of_ble_eq_true rfl) (fun _ => ⟨rfl, rfl⟩)) rfl (Nat.le_of_ble_eq_true rfl) ?_
  refine SW.aload_n (pc := 17) g (dt dt_X4_init 9 rfl) rfl ?_
  refine SW.bipush (pc := 18) (v := 12) g (dt dt_X4_init 10 rfl) kb_12 ?_
  refine SW.newa (pc := 20) (n := 13) (N := 12) g (dt dt_X4_init 11 rfl) (gtb_of (tbm_1 (List.mem_of_getElem? (i := 76) rfl)) rfl) (by decide) (by decide) (Nat.le_of_ble_eq_true rfl) rfl (Nat.le_of_ble_eq_true rfl) rfl rfl rfl (Nat.le_of_ble_eq_true rfl) (Nat.le_of_ble_eq_true rfl) (fun ad1 hx1 => ?_)
  have hx := sw_ext_trans hx hx1 (Nat.le_of_ble_eq_true rfl)
  have g := sw_ok_ext g hx1
  refine SW.genM h (fun μ3 h => ?_)
  refine SW.putR (pc := 22) g hname (dt dt_X4_init 12 rfl) fl_X4_19 rfl (sw_tyR cl_4 (Nat.le_of_ble_eq_true rfl) (fun _ => ⟨rfl, rfl⟩)) rfl (Nat.le_of_ble_eq_true rfl) ?_
  refine SW.aload_n (pc := 25) g (dt dt_X4_init 13 rfl) rfl ?_
  refine SW.bipush (pc := 26) (v := 12) g (dt dt_X4_init 14 rfl) kb_12 ?_
  refine SW.newa (pc := 28) (n := 14) (N := 12) g (dt dt_X4_init 15 rfl) (gtb_of (tbm_1 (List.mem_of_getElem? (i := 76) rfl)) rfl) (by decide) (by decide) (Nat.le_of_ble_eq_true rfl) rfl (Nat.le_of_ble_eq_true rfl) rfl rfl rfl (Nat.le_of_ble_eq_true rfl) (Nat.le_of_ble_eq_true rfl) (fun ad1 hx1 => ?_)
  have hx := sw_ext_trans hx hx1 (Nat.le_of_ble_eq_true rfl)
  have g := sw_ok_ext g hx1
  refine SW.genM h (fun μ4 h => ?_)
  refine SW.putR (pc := 30) g hname (dt dt_X4_init 16 rfl) fl_X4_22 rfl (sw_tyR cl_4 (Nat.le_of_ble_eq_true rfl) (fun _ => ⟨rfl, rfl⟩)) rfl (Nat.le_of_ble_eq_true rfl) ?_
  refine SW.aload_n (pc := 33) g (dt dt_X4_init 17 rfl) rfl ?_
  refine SW.bipush (pc := 34) (v := 6) g (dt dt_X4_init 18 rfl) kb_6 ?_
  refine SW.newa (pc := 36) (n := 15) (N := 6) g (dt dt_X4_init 19 rfl) (gtb_of (tbm_1 (List.mem_of_getElem? (i := 76) rfl)) rfl) (by decide) (by decide) (Nat.le_of_ble_eq_true rfl) rfl (Nat.le_of_ble_eq_true rfl) rfl rfl rfl (Nat.le_of_ble_eq_true rfl) (Nat.le_of_ble_eq_true rfl) (fun ad1 hx1 => ?_)
  have hx := sw_ext_trans hx hx1 (Nat.le_of_ble_eq_true rfl)
  have g := sw_ok_ext g hx1
  refine SW.genM h (fun μ5 h => ?_)
  refine SW.putR (pc := 38) g hname (dt dt_X4_init 20 rfl) fl_X4_25 rfl (sw_tyR cl_4 (Nat.le_of_ble_eq_true rfl) (fun _ => ⟨rfl, rfl⟩)) rfl (Nat.le_of_ble_eq_true rfl) ?_
  refine SW.aload_n (pc := 41) g (dt dt_X4_init 21 rfl) rfl ?_
  refine SW.bipush (pc := 42) (v := 6) g (dt dt_X4_init 22 rfl) kb_6 ?_
  refine SW.newa (pc := 44) (n := 16) (N := 6) g (dt dt_X4_init 23 rfl) (gtb_of (tbm_1 (List.mem_of_getElem? (i := 76) rfl)) rfl) (by decide) (by decide) (Nat.le_of_ble_eq_true rfl) rfl (Nat.le_of_ble_eq_true rfl) rfl rfl rfl (Nat.le_of_ble_eq_true rfl) (Nat.le_of_ble_eq_true rfl) (fun ad1 hx1 => ?_)
  have hx := sw_ext_trans hx hx1 (Nat.le_of_ble_eq_true rfl)
  have g := sw_ok_ext g hx1
  refine SW.genM h (fun μ6 h => ?_)
  refine SW.putR (pc := 46) g hname (dt dt_X4_init 24 rfl) fl_X4_28 rfl (sw_tyR cl_4 (Nat.le_of_ble_eq_true rfl) (fun _ => ⟨rfl, rfl⟩)) rfl (Nat.le_of_ble_eq_true rfl) ?_
  refine SW.aload_n (pc := 49) g (dt dt_X4_init 25 rfl) rfl ?_
  refine SW.iconst (pc := 50) (v := 5) g (dt dt_X4_init 26 rfl) ki_5 ?_
  refine SW.newa (pc := 51) (n := 17) (N := 5) g (dt dt_X4_init 27 rfl) (gtb_of (tbm_1 (List.mem_of_getElem? (i := 76) rfl)) rfl) (by decide) (by decide) (Nat.le_of_ble_eq_true rfl) rfl (Nat.le_of_ble_eq_true rfl) rfl rfl rfl (Nat.le_of_ble_eq_true rfl) (Nat.le_of_ble_eq_true rfl) (fun ad1 hx1 => ?_)
  have hx := sw_ext_trans hx hx1 (Nat.le_of_ble_eq_true rfl)
  have g := sw_ok_ext g hx1
  refine SW.genM h (fun μ7 h => ?_)
  refine SW.putR (pc := 53) g hname (dt dt_X4_init 28 rfl) fl_X4_31 rfl (sw_tyR cl_4 (Nat.le_of_ble_eq_true rfl) (fun _ => ⟨rfl, rfl⟩)) rfl (Nat.le_of_ble_eq_true rfl) ?_
  refine SW.aload_n (pc := 56) g (dt dt_X4_init 29 rfl) rfl ?_
  refine SW.iconst (pc := 57) (v := 5) g (dt dt_X4_init 30 rfl) ki_5 ?_
  refine SW.newa (pc := 58) (n := 18) (N := 5) g (dt dt_X4_init 31 rfl) (gtb_of (tbm_1 (List.mem_of_getElem? (i := 76) rfl)) rfl) (by decide) (by decide) (Nat.le_of_ble_eq_true rfl) rfl (Nat.le_of_ble_eq_true rfl) rfl rfl rfl (Nat.le_of_ble_eq_true rfl) (Nat.le_of_ble_eq_true rfl) (fun ad1 hx1 => ?_)
  have hx := sw_ext_trans hx hx1 (Nat.le_of_ble_eq_true rfl)
  have g := sw_ok_ext g hx1
  refine SW.genM h (fun μ8 h => ?_)
  refine SW.putR (pc := 60) g hname (dt dt_X4_init 32 rfl) fl_X4_34 rfl (sw_tyR cl_4 (Nat.le_of_ble_eq_true rfl) (fun _ => ⟨rfl, rfl⟩)) rfl (Nat.le_of_ble_eq_true rfl) ?_
  exact SW.vreturn (pc := 63) g (leafV h ho) hx (Nat.le_of_ble_eq_true rfl) (Nat.le_of_ble_eq_true rfl) (dt dt_X4_init 33 rfl)

def f_law_init (N : Nat) (μ : sw_M) : Option sw_M :=
  wb (wrR μ 20 (fun _ => 0)) (fun μ1 =>
  wb (wrR μ1 21 (fun _ => 0)) (fun μ2 =>
  wb (wrR μ2 22 (fun _ => 0)) (fun μ3 =>
  wb (wrR μ3 23 (fun _ => 0)) (fun μ4 =>
  Option.bind (f_law_clear_ly8 N μ4) (fun r5 =>
  some r5)))))
set_option maxRecDepth 100000 in
set_option maxHeartbeats 8000000 in
theorem mtc_f_law_init (l : Launch) (D : va_G) (cI cL : ClassId) (ad : Nat → Nat) (ν : sw_N) (N : Nat) (μ : sw_M) (o : sw_M) (h : f_law_init N μ = some o) : MetR l D cI cL yX5_init cX5_init 1 none 4 4 457 (sw_ext 20 ad) ad [.ref 19] ly7 μ ν none ly8 o ν := by
  refine MetR.ofI (n := 0) rfl (Nat.le_of_ble_eq_true rfl) (fun G g ho hm hname => ?_)
  have hx : sw_ext 20 ad ad := sw_ext_rf
  unfold f_law_init at h
  refine SW.aload_n (pc := 0) g (dt dt_X5_init 0 rfl) rfl ?_
  refine SW.objInit (pc := 1) g (dt dt_X5_init 1 rfl) (gtb_of (tbm_1 (List.mem_of_getElem? (i := 154) rfl)) rfl) oi_i oi_c (Nat.le_of_ble_eq_true rfl) (Nat.le_of_ble_eq_true rfl) ?_
  refine SW.aload_n (pc := 4) g (dt dt_X5_init 2 rfl) rfl ?_
  refine SW.sipush (pc := 5) (v := 150) g (dt dt_X5_init 3 rfl) ks_150 ?_
  refine SW.newa (pc := 8) (n := 20) (N := 150) g (dt dt_X5_init 4 rfl) (gtb_of (tbm_1 (List.mem_of_getElem? (i := 76) rfl)) rfl) (by decide) (by decide) (Nat.le_of_ble_eq_true rfl) rfl (Nat.le_of_ble_eq_true rfl) rfl rfl rfl (Nat.le_of_ble_eq_true rfl) (Nat.le_of_ble_eq_true rfl) (fun ad1 hx1 => ?_)
  have hx := sw_ext_trans hx hx1 (Nat.le_of_ble_eq_true rfl)
  have g := sw_ok_ext g hx1
  refine SW.genM h (fun μ1 h => ?_)
  refine SW.putR (pc := 10) g hname (dt dt_X5_init 5 rfl) fl_X5_9 rfl (sw_tyR cl_5 (Nat.le_of_ble_eq_true rfl) (fun _ => ⟨rfl, rfl⟩)) rfl (Nat.le_of_ble_eq_true rfl) ?_
  refine SW.aload_n (pc := 13) g (dt dt_X5_init 6 rfl) rfl ?_
  refine SW.sipush (pc := 14) (v := 150) g (dt dt_X5_init 7 rfl) ks_150 ?_
  refine SW.newa (pc := 17) (n := 21) (N := 150) g (dt dt_X5_init 8 rfl) (gtb_of (tbm_1 (List.mem_of_getElem? (i := 76) rfl)) rfl) (by decide) (by decide) (Nat.le_of_ble_eq_true rfl) rfl (Nat.le_of_ble_eq_true rfl) rfl rfl rfl (Nat.le_of_ble_eq_true rfl) (Nat.le_of_ble_eq_true rfl) (fun ad1 hx1 => ?_)
  have hx := sw_ext_trans hx hx1 (Nat.le_of_ble_eq_true rfl)
  have g := sw_ok_ext g hx1
  refine SW.genM h (fun μ2 h => ?_)
  refine SW.putR (pc := 19) g hname (dt dt_X5_init 9 rfl) fl_X5_15 rfl (sw_tyR cl_5 (Nat.le_of_ble_eq_true rfl) (fun _ => ⟨rfl, rfl⟩)) rfl (Nat.le_of_ble_eq_true rfl) ?_
  refine SW.aload_n (pc := 22) g (dt dt_X5_init 10 rfl) rfl ?_
  refine SW.bipush (pc := 23) (v := 7) g (dt dt_X5_init 11 rfl) kb_7 ?_
  refine SW.newa (pc := 25) (n := 22) (N := 7) g (dt dt_X5_init 12 rfl) (gtb_of (tbm_1 (List.mem_of_getElem? (i := 76) rfl)) rfl) (by decide) (by decide) (Nat.le_of_ble_eq_true rfl) rfl (Nat.le_of_ble_eq_true rfl) rfl rfl rfl (Nat.le_of_ble_eq_true rfl) (Nat.le_of_ble_eq_true rfl) (fun ad1 hx1 => ?_)
  have hx := sw_ext_trans hx hx1 (Nat.le_of_ble_eq_true rfl)
  have g := sw_ok_ext g hx1
  refine SW.genM h (fun μ3 h => ?_)
  refine SW.putR (pc := 27) g hname (dt dt_X5_init 13 rfl) fl_X5_18 rfl (sw_tyR cl_5 (Nat.le_of_ble_eq_true rfl) (fun _ => ⟨rfl, rfl⟩)) rfl (Nat.le_of_ble_eq_true rfl) ?_
  refine SW.aload_n (pc := 30) g (dt dt_X5_init 14 rfl) rfl ?_
  refine SW.sipush (pc := 31) (v := 150) g (dt dt_X5_init 15 rfl) ks_150 ?_
  refine SW.newa (pc := 34) (n := 23) (N := 150) g (dt dt_X5_init 16 rfl) (gtb_of (tbm_1 (List.mem_of_getElem? (i := 76) rfl)) rfl) (by decide) (by decide) (Nat.le_of_ble_eq_true rfl) rfl (Nat.le_of_ble_eq_true rfl) rfl rfl rfl (Nat.le_of_ble_eq_true rfl) (Nat.le_of_ble_eq_true rfl) (fun ad1 hx1 => ?_)
  have hx := sw_ext_trans hx hx1 (Nat.le_of_ble_eq_true rfl)
  have g := sw_ok_ext g hx1
  refine SW.genM h (fun μ4 h => ?_)
  refine SW.putR (pc := 36) g hname (dt dt_X5_init 17 rfl) fl_X5_21 rfl (sw_tyR cl_5 (Nat.le_of_ble_eq_true rfl) (fun _ => ⟨rfl, rfl⟩)) rfl (Nat.le_of_ble_eq_true rfl) ?_
  refine SW.aload_n (pc := 39) g (dt dt_X5_init 18 rfl) rfl ?_
  obtain ⟨r5, h5, h⟩ := bindI h
  refine SW.callVv (pc := 40) g (dt dt_X5_init 19 rfl) (mt_f_law_clear_ly8 _ _ _ _ _ ν N μ4 r5 h5) me_X5_clear mv_X5_clear ml_X5_24 rfl rfl rfl (Nat.le_of_ble_eq_true rfl) (Nat.le_of_ble_eq_true rfl) (Nat.le_of_ble_eq_true rfl) (Nat.le_of_ble_eq_true rfl) rfl ?_
  exact SW.vreturn (pc := 43) g (leafV h ho) hx (Nat.le_of_ble_eq_true rfl) (Nat.le_of_ble_eq_true rfl) (dt dt_X5_init 20 rfl)

def f_lawR_init (N : Nat) (μ : sw_M) : Option sw_M :=
  wb (wrR μ 25 (fun _ => 0)) (fun μ1 =>
  wb (wrR μ1 26 (fun _ => 0)) (fun μ2 =>
  wb (wrR μ2 27 (fun _ => 0)) (fun μ3 =>
  wb (wrR μ3 28 (fun _ => 0)) (fun μ4 =>
  Option.bind (f_lawR_clear_ly10 N μ4) (fun r5 =>
  some r5)))))
set_option maxRecDepth 100000 in
set_option maxHeartbeats 8000000 in
theorem mtc_f_lawR_init (l : Launch) (D : va_G) (cI cL : ClassId) (ad : Nat → Nat) (ν : sw_N) (N : Nat) (μ : sw_M) (o : sw_M) (h : f_lawR_init N μ = some o) : MetR l D cI cL yX5_init cX5_init 1 none 4 4 457 (sw_ext 25 ad) ad [.ref 24] ly9 μ ν none ly10 o ν := by
  refine MetR.ofI (n := 0) rfl (Nat.le_of_ble_eq_true rfl) (fun G g ho hm hname => ?_)
  have hx : sw_ext 25 ad ad := sw_ext_rf
  unfold f_lawR_init at h
  refine SW.aload_n (pc := 0) g (dt dt_X5_init 0 rfl) rfl ?_
  refine SW.objInit (pc := 1) g (dt dt_X5_init 1 rfl) (gtb_of (tbm_1 (List.mem_of_getElem? (i := 154) rfl)) rfl) oi_i oi_c (Nat.le_of_ble_eq_true rfl) (Nat.le_of_ble_eq_true rfl) ?_
  refine SW.aload_n (pc := 4) g (dt dt_X5_init 2 rfl) rfl ?_
  refine SW.sipush (pc := 5) (v := 150) g (dt dt_X5_init 3 rfl) ks_150 ?_
  refine SW.newa (pc := 8) (n := 25) (N := 150) g (dt dt_X5_init 4 rfl) (gtb_of (tbm_1 (List.mem_of_getElem? (i := 76) rfl)) rfl) (by decide) (by decide) (Nat.le_of_ble_eq_true rfl) rfl (Nat.le_of_ble_eq_true rfl) rfl rfl rfl (Nat.le_of_ble_eq_true rfl) (Nat.le_of_ble_eq_true rfl) (fun ad1 hx1 => ?_)
  have hx := sw_ext_trans hx hx1 (Nat.le_of_ble_eq_true rfl)
  have g := sw_ok_ext g hx1
  refine SW.genM h (fun μ1 h => ?_)
  refine SW.putR (pc := 10) g hname (dt dt_X5_init 5 rfl) fl_X5_9 rfl (sw_tyR cl_5 (Nat.le_of_ble_eq_true rfl) (fun _ => ⟨rfl, rfl⟩)) rfl (Nat.le_of_ble_eq_true rfl) ?_
  refine SW.aload_n (pc := 13) g (dt dt_X5_init 6 rfl) rfl ?_
  refine SW.sipush (pc := 14) (v := 150) g (dt dt_X5_init 7 rfl) ks_150 ?_
  refine SW.newa (pc := 17) (n := 26) (N := 150) g (dt dt_X5_init 8 rfl) (gtb_of (tbm_1 (List.mem_of_getElem? (i := 76) rfl)) rfl) (by decide) (by decide) (Nat.le_of_ble_eq_true rfl) rfl (Nat.le_of_ble_eq_true rfl) rfl rfl rfl (Nat.le_of_ble_eq_true rfl) (Nat.le_of_ble_eq_true rfl) (fun ad1 hx1 => ?_)
  have hx := sw_ext_trans hx hx1 (Nat.le_of_ble_eq_true rfl)
  have g := sw_ok_ext g hx1
  refine SW.genM h (fun μ2 h => ?_)
  refine SW.putR (pc := 19) g hname (dt dt_X5_init 9 rfl) fl_X5_15 rfl (sw_tyR cl_5 (Nat.le_of_ble_eq_true rfl) (fun _ => ⟨rfl, rfl⟩)) rfl (Nat.le_of_ble_eq_true rfl) ?_
  refine SW.aload_n (pc := 22) g (dt dt_X5_init 10 rfl) rfl ?_
  refine SW.bipush (pc := 23) (v := 7) g (dt dt_X5_init 11 rfl) kb_7 ?_
  refine SW.newa (pc := 25) (n := 27) (N := 7) g (dt dt_X5_init 12 rfl) (gtb_of (tbm_1 (List.mem_of_getElem? (i := 76) rfl)) rfl) (by decide) (by decide) (Nat.le_of_ble_eq_true rfl) rfl (Nat.le_of_ble_eq_true rfl) rfl rfl rfl (Nat.le_of_ble_eq_true rfl) (Nat.le_of_ble_eq_true rfl) (fun ad1 hx1 => ?_)
  have hx := sw_ext_trans hx hx1 (Nat.le_of_ble_eq_true rfl)
  have g := sw_ok_ext g hx1
  refine SW.genM h (fun μ3 h => ?_)
  refine SW.putR (pc := 27) g hname (dt dt_X5_init 13 rfl) fl_X5_18 rfl (sw_tyR cl_5 (Nat.le_of_ble_eq_true rfl) (fun _ => ⟨rfl, rfl⟩)) rfl (Nat.le_of_ble_eq_true rfl) ?_
  refine SW.aload_n (pc := 30) g (dt dt_X5_init 14 rfl) rfl ?_
  refine SW.sipush (pc := 31) (v := 150) g (dt dt_X5_init 15 rfl) ks_150 ?_
  refine SW.newa (pc := 34) (n := 28) (N := 150) g (dt dt_X5_init 16 rfl) (gtb_of (tbm_1 (List.mem_of_getElem? (i := 76) rfl)) rfl) (by decide) (by decide) (Nat.le_of_ble_eq_true rfl) rfl (Nat.le_of_ble_eq_true rfl) rfl rfl rfl (Nat.le_of_ble_eq_true rfl) (Nat.le_of_ble_eq_true rfl) (fun ad1 hx1 => ?_)
  have hx := sw_ext_trans hx hx1 (Nat.le_of_ble_eq_true rfl)
  have g := sw_ok_ext g hx1
  refine SW.genM h (fun μ4 h => ?_)
  refine SW.putR (pc := 36) g hname (dt dt_X5_init 17 rfl) fl_X5_21 rfl (sw_tyR cl_5 (Nat.le_of_ble_eq_true rfl) (fun _ => ⟨rfl, rfl⟩)) rfl (Nat.le_of_ble_eq_true rfl) ?_
  refine SW.aload_n (pc := 39) g (dt dt_X5_init 18 rfl) rfl ?_
  obtain ⟨r5, h5, h⟩ := bindI h
  refine SW.callVv (pc := 40) g (dt dt_X5_init 19 rfl) (mt_f_lawR_clear_ly10 _ _ _ _ _ ν N μ4 r5 h5) me_X5_clear mv_X5_clear ml_X5_24 rfl rfl rfl (Nat.le_of_ble_eq_true rfl) (Nat.le_of_ble_eq_true rfl) (Nat.le_of_ble_eq_true rfl) (Nat.le_of_ble_eq_true rfl) rfl ?_
  exact SW.vreturn (pc := 43) g (leafV h ho) hx (Nat.le_of_ble_eq_true rfl) (Nat.le_of_ble_eq_true rfl) (dt dt_X5_init 20 rfl)

def f_book_init (N : Nat) (μ : sw_M) : Option sw_M :=
  wb (wrR μ 30 (fun _ => 0)) (fun μ1 =>
  wb (wrR μ1 31 (fun _ => 0)) (fun μ2 =>
  some μ2))
set_option maxRecDepth 100000 in
set_option maxHeartbeats 8000000 in
theorem mtc_f_book_init (l : Launch) (D : va_G) (cI cL : ClassId) (ad : Nat → Nat) (ν : sw_N) (N : Nat) (μ : sw_M) (o : sw_M) (h : f_book_init N μ = some o) : MetR l D cI cL yX1_init cX1_init 1 none 1 2 16 (sw_ext 30 ad) ad [.ref 29] ly11 μ ν none ly12 o ν := by
  refine MetR.ofI (n := 0) rfl (Nat.le_of_ble_eq_true rfl) (fun G g ho hm hname => ?_)
  have hx : sw_ext 30 ad ad := sw_ext_rf
  unfold f_book_init at h
  refine SW.aload_n (pc := 0) g (dt dt_X1_init 0 rfl) rfl ?_
  refine SW.objInit (pc := 1) g (dt dt_X1_init 1 rfl) (gtb_of (tbm_1 (List.mem_of_getElem? (i := 193) rfl)) rfl) oi_i oi_c (Nat.le_of_ble_eq_true rfl) (Nat.le_of_ble_eq_true rfl) ?_
  refine SW.aload_n (pc := 4) g (dt dt_X1_init 2 rfl) rfl ?_
  refine SW.bipush (pc := 5) (v := 8) g (dt dt_X1_init 3 rfl) kb_8 ?_
  refine SW.newa (pc := 7) (n := 30) (N := 8) g (dt dt_X1_init 4 rfl) (gtb_of (tbm_1 (List.mem_of_getElem? (i := 76) rfl)) rfl) (by decide) (by decide) (Nat.le_of_ble_eq_true rfl) rfl (Nat.le_of_ble_eq_true rfl) rfl rfl rfl (Nat.le_of_ble_eq_true rfl) (Nat.le_of_ble_eq_true rfl) (fun ad1 hx1 => ?_)
  have hx := sw_ext_trans hx hx1 (Nat.le_of_ble_eq_true rfl)
  have g := sw_ok_ext g hx1
  refine SW.genM h (fun μ1 h => ?_)
  refine SW.putR (pc := 9) g hname (dt dt_X1_init 5 rfl) fl_X1_9 rfl (sw_tyR cl_1 (Nat.le_of_ble_eq_true rfl) (fun _ => ⟨rfl, rfl⟩)) rfl (Nat.le_of_ble_eq_true rfl) ?_
  refine SW.aload_n (pc := 12) g (dt dt_X1_init 6 rfl) rfl ?_
  refine SW.bipush (pc := 13) (v := 8) g (dt dt_X1_init 7 rfl) kb_8 ?_
  refine SW.newa (pc := 15) (n := 31) (N := 8) g (dt dt_X1_init 8 rfl) (gtb_of (tbm_1 (List.mem_of_getElem? (i := 76) rfl)) rfl) (by decide) (by decide) (Nat.le_of_ble_eq_true rfl) rfl (Nat.le_of_ble_eq_true rfl) rfl rfl rfl (Nat.le_of_ble_eq_true rfl) (Nat.le_of_ble_eq_true rfl) (fun ad1 hx1 => ?_)
  have hx := sw_ext_trans hx hx1 (Nat.le_of_ble_eq_true rfl)
  have g := sw_ok_ext g hx1
  refine SW.genM h (fun μ2 h => ?_)
  refine SW.putR (pc := 17) g hname (dt dt_X1_init 9 rfl) fl_X1_15 rfl (sw_tyR cl_1 (Nat.le_of_ble_eq_true rfl) (fun _ => ⟨rfl, rfl⟩)) rfl (Nat.le_of_ble_eq_true rfl) ?_
  exact SW.vreturn (pc := 20) g (leafV h ho) hx (Nat.le_of_ble_eq_true rfl) (Nat.le_of_ble_eq_true rfl) (dt dt_X1_init 10 rfl)

def f_bookR_init (N : Nat) (μ : sw_M) : Option sw_M :=
  wb (wrR μ 33 (fun _ => 0)) (fun μ1 =>
  wb (wrR μ1 34 (fun _ => 0)) (fun μ2 =>
  some μ2))
set_option maxRecDepth 100000 in
set_option maxHeartbeats 8000000 in
theorem mtc_f_bookR_init (l : Launch) (D : va_G) (cI cL : ClassId) (ad : Nat → Nat) (ν : sw_N) (N : Nat) (μ : sw_M) (o : sw_M) (h : f_bookR_init N μ = some o) : MetR l D cI cL yX1_init cX1_init 1 none 1 2 16 (sw_ext 33 ad) ad [.ref 32] ly13 μ ν none ly14 o ν := by
  refine MetR.ofI (n := 0) rfl (Nat.le_of_ble_eq_true rfl) (fun G g ho hm hname => ?_)
  have hx : sw_ext 33 ad ad := sw_ext_rf
  unfold f_bookR_init at h
  refine SW.aload_n (pc := 0) g (dt dt_X1_init 0 rfl) rfl ?_
  refine SW.objInit (pc := 1) g (dt dt_X1_init 1 rfl) (gtb_of (tbm_1 (List.mem_of_getElem? (i := 193) rfl)) rfl) oi_i oi_c (Nat.le_of_ble_eq_true rfl) (Nat.le_of_ble_eq_true rfl) ?_
  refine SW.aload_n (pc := 4) g (dt dt_X1_init 2 rfl) rfl ?_
  refine SW.bipush (pc := 5) (v := 8) g (dt dt_X1_init 3 rfl) kb_8 ?_
  refine SW.newa (pc := 7) (n := 33) (N := 8) g (dt dt_X1_init 4 rfl) (gtb_of (tbm_1 (List.mem_of_getElem? (i := 76) rfl)) rfl) (by decide) (by decide) (Nat.le_of_ble_eq_true rfl) rfl (Nat.le_of_ble_eq_true rfl) rfl rfl rfl (Nat.le_of_ble_eq_true rfl) (Nat.le_of_ble_eq_true rfl) (fun ad1 hx1 => ?_)
  have hx := sw_ext_trans hx hx1 (Nat.le_of_ble_eq_true rfl)
  have g := sw_ok_ext g hx1
  refine SW.genM h (fun μ1 h => ?_)
  refine SW.putR (pc := 9) g hname (dt dt_X1_init 5 rfl) fl_X1_9 rfl (sw_tyR cl_1 (Nat.le_of_ble_eq_true rfl) (fun _ => ⟨rfl, rfl⟩)) rfl (Nat.le_of_ble_eq_true rfl) ?_
  refine SW.aload_n (pc := 12) g (dt dt_X1_init 6 rfl) rfl ?_
  refine SW.bipush (pc := 13) (v := 8) g (dt dt_X1_init 7 rfl) kb_8 ?_
  refine SW.newa (pc := 15) (n := 34) (N := 8) g (dt dt_X1_init 8 rfl) (gtb_of (tbm_1 (List.mem_of_getElem? (i := 76) rfl)) rfl) (by decide) (by decide) (Nat.le_of_ble_eq_true rfl) rfl (Nat.le_of_ble_eq_true rfl) rfl rfl rfl (Nat.le_of_ble_eq_true rfl) (Nat.le_of_ble_eq_true rfl) (fun ad1 hx1 => ?_)
  have hx := sw_ext_trans hx hx1 (Nat.le_of_ble_eq_true rfl)
  have g := sw_ok_ext g hx1
  refine SW.genM h (fun μ2 h => ?_)
  refine SW.putR (pc := 17) g hname (dt dt_X1_init 9 rfl) fl_X1_15 rfl (sw_tyR cl_1 (Nat.le_of_ble_eq_true rfl) (fun _ => ⟨rfl, rfl⟩)) rfl (Nat.le_of_ble_eq_true rfl) ?_
  exact SW.vreturn (pc := 20) g (leafV h ho) hx (Nat.le_of_ble_eq_true rfl) (Nat.le_of_ble_eq_true rfl) (dt dt_X1_init 10 rfl)

def f_days_init (N : Nat) (μ : sw_M) : Option sw_M :=
  wb (wrR μ 36 (fun _ => 0)) (fun μ1 =>
  wb (wrR μ1 37 (fun _ => 0)) (fun μ2 =>
  wb (wrR μ2 38 (fun _ => 0)) (fun μ3 =>
  wb (wrR μ3 39 (fun _ => 0)) (fun μ4 =>
  wb (wrR μ4 40 (fun _ => 0)) (fun μ5 =>
  Option.bind (f_days_begin_ly16 N μ5) (fun r6 =>
  some r6))))))
set_option maxRecDepth 100000 in
set_option maxHeartbeats 8000000 in
theorem mtc_f_days_init (l : Launch) (D : va_G) (cI cL : ClassId) (ad : Nat → Nat) (ν : sw_N) (N : Nat) (μ : sw_M) (o : sw_M) (h : f_days_init N μ = some o) : MetR l D cI cL yX2_init cX2_init 3 none 2 5 34 (sw_ext 36 ad) ad [.ref 35, .ref 3, .ref 19] ly15 μ ν none ly16 o ν := by
  refine MetR.ofI (n := 0) rfl (Nat.le_of_ble_eq_true rfl) (fun G g ho hm hname => ?_)
  have hx : sw_ext 36 ad ad := sw_ext_rf
  unfold f_days_init at h
  refine SW.aload_n (pc := 0) g (dt dt_X2_init 0 rfl) rfl ?_
  refine SW.objInit (pc := 1) g (dt dt_X2_init 1 rfl) (gtb_of (tbm_1 (List.mem_of_getElem? (i := 213) rfl)) rfl) oi_i oi_c (Nat.le_of_ble_eq_true rfl) (Nat.le_of_ble_eq_true rfl) ?_
  refine SW.aload_n (pc := 4) g (dt dt_X2_init 2 rfl) rfl ?_
  refine SW.bipush (pc := 5) (v := 12) g (dt dt_X2_init 3 rfl) kb_12 ?_
  refine SW.newa (pc := 7) (n := 36) (N := 12) g (dt dt_X2_init 4 rfl) (gtb_of (tbm_1 (List.mem_of_getElem? (i := 76) rfl)) rfl) (by decide) (by decide) (Nat.le_of_ble_eq_true rfl) rfl (Nat.le_of_ble_eq_true rfl) rfl rfl rfl (Nat.le_of_ble_eq_true rfl) (Nat.le_of_ble_eq_true rfl) (fun ad1 hx1 => ?_)
  have hx := sw_ext_trans hx hx1 (Nat.le_of_ble_eq_true rfl)
  have g := sw_ok_ext g hx1
  refine SW.genM h (fun μ1 h => ?_)
  refine SW.putR (pc := 9) g hname (dt dt_X2_init 5 rfl) fl_X2_9 rfl (sw_tyR cl_2 (Nat.le_of_ble_eq_true rfl) (fun _ => ⟨rfl, rfl⟩)) rfl (Nat.le_of_ble_eq_true rfl) ?_
  refine SW.aload_n (pc := 12) g (dt dt_X2_init 6 rfl) rfl ?_
  refine SW.bipush (pc := 13) (v := 6) g (dt dt_X2_init 7 rfl) kb_6 ?_
  refine SW.newa (pc := 15) (n := 37) (N := 6) g (dt dt_X2_init 8 rfl) (gtb_of (tbm_1 (List.mem_of_getElem? (i := 76) rfl)) rfl) (by decide) (by decide) (Nat.le_of_ble_eq_true rfl) rfl (Nat.le_of_ble_eq_true rfl) rfl rfl rfl (Nat.le_of_ble_eq_true rfl) (Nat.le_of_ble_eq_true rfl) (fun ad1 hx1 => ?_)
  have hx := sw_ext_trans hx hx1 (Nat.le_of_ble_eq_true rfl)
  have g := sw_ok_ext g hx1
  refine SW.genM h (fun μ2 h => ?_)
  refine SW.putR (pc := 17) g hname (dt dt_X2_init 9 rfl) fl_X2_15 rfl (sw_tyR cl_2 (Nat.le_of_ble_eq_true rfl) (fun _ => ⟨rfl, rfl⟩)) rfl (Nat.le_of_ble_eq_true rfl) ?_
  refine SW.aload_n (pc := 20) g (dt dt_X2_init 10 rfl) rfl ?_
  refine SW.bipush (pc := 21) (v := 6) g (dt dt_X2_init 11 rfl) kb_6 ?_
  refine SW.newa (pc := 23) (n := 38) (N := 6) g (dt dt_X2_init 12 rfl) (gtb_of (tbm_1 (List.mem_of_getElem? (i := 76) rfl)) rfl) (by decide) (by decide) (Nat.le_of_ble_eq_true rfl) rfl (Nat.le_of_ble_eq_true rfl) rfl rfl rfl (Nat.le_of_ble_eq_true rfl) (Nat.le_of_ble_eq_true rfl) (fun ad1 hx1 => ?_)
  have hx := sw_ext_trans hx hx1 (Nat.le_of_ble_eq_true rfl)
  have g := sw_ok_ext g hx1
  refine SW.genM h (fun μ3 h => ?_)
  refine SW.putR (pc := 25) g hname (dt dt_X2_init 13 rfl) fl_X2_18 rfl (sw_tyR cl_2 (Nat.le_of_ble_eq_true rfl) (fun _ => ⟨rfl, rfl⟩)) rfl (Nat.le_of_ble_eq_true rfl) ?_
  refine SW.aload_n (pc := 28) g (dt dt_X2_init 14 rfl) rfl ?_
  refine SW.iconst (pc := 29) (v := 5) g (dt dt_X2_init 15 rfl) ki_5 ?_
  refine SW.newa (pc := 30) (n := 39) (N := 5) g (dt dt_X2_init 16 rfl) (gtb_of (tbm_1 (List.mem_of_getElem? (i := 76) rfl)) rfl) (by decide) (by decide) (Nat.le_of_ble_eq_true rfl) rfl (Nat.le_of_ble_eq_true rfl) rfl rfl rfl (Nat.le_of_ble_eq_true rfl) (Nat.le_of_ble_eq_true rfl) (fun ad1 hx1 => ?_)
  have hx := sw_ext_trans hx hx1 (Nat.le_of_ble_eq_true rfl)
  have g := sw_ok_ext g hx1
  refine SW.genM h (fun μ4 h => ?_)
  refine SW.putR (pc := 32) g hname (dt dt_X2_init 17 rfl) fl_X2_21 rfl (sw_tyR cl_2 (Nat.le_of_ble_eq_true rfl) (fun _ => ⟨rfl, rfl⟩)) rfl (Nat.le_of_ble_eq_true rfl) ?_
  refine SW.aload_n (pc := 35) g (dt dt_X2_init 18 rfl) rfl ?_
  refine SW.iconst (pc := 36) (v := 5) g (dt dt_X2_init 19 rfl) ki_5 ?_
  refine SW.newa (pc := 37) (n := 40) (N := 5) g (dt dt_X2_init 20 rfl) (gtb_of (tbm_1 (List.mem_of_getElem? (i := 76) rfl)) rfl) (by decide) (by decide) (Nat.le_of_ble_eq_true rfl) rfl (Nat.le_of_ble_eq_true rfl) rfl rfl rfl (Nat.le_of_ble_eq_true rfl) (Nat.le_of_ble_eq_true rfl) (fun ad1 hx1 => ?_)
  have hx := sw_ext_trans hx hx1 (Nat.le_of_ble_eq_true rfl)
  have g := sw_ok_ext g hx1
  refine SW.genM h (fun μ5 h => ?_)
  refine SW.putR (pc := 39) g hname (dt dt_X2_init 21 rfl) fl_X2_24 rfl (sw_tyR cl_2 (Nat.le_of_ble_eq_true rfl) (fun _ => ⟨rfl, rfl⟩)) rfl (Nat.le_of_ble_eq_true rfl) ?_
  refine SW.aload_n (pc := 42) g (dt dt_X2_init 22 rfl) rfl ?_
  refine SW.aload_n (pc := 43) g (dt dt_X2_init 23 rfl) rfl ?_
  refine SW.putR (pc := 44) g hname (dt dt_X2_init 24 rfl) fl_X2_27 rfl (sw_tyR cl_2 (Nat.le_of_ble_eq_true rfl) (fun _ => ⟨rfl, rfl⟩)) rfl (Nat.le_of_ble_eq_true rfl) ?_
  refine SW.aload_n (pc := 47) g (dt dt_X2_init 25 rfl) rfl ?_
  refine SW.aload_n (pc := 48) g (dt dt_X2_init 26 rfl) rfl ?_
  refine SW.putR (pc := 49) g hname (dt dt_X2_init 27 rfl) fl_X2_31 rfl (sw_tyR cl_2 (Nat.le_of_ble_eq_true rfl) (fun _ => ⟨rfl, rfl⟩)) rfl (Nat.le_of_ble_eq_true rfl) ?_
  refine SW.aload_n (pc := 52) g (dt dt_X2_init 28 rfl) rfl ?_
  obtain ⟨r6, h6, h⟩ := bindI h
  refine SW.callVv (pc := 53) g (dt dt_X2_init 29 rfl) (mt_f_days_begin_ly16 _ _ _ _ _ ν N μ5 r6 h6) me_X2_begin mv_X2_begin ml_X2_35 rfl rfl rfl (Nat.le_of_ble_eq_true rfl) (Nat.le_of_ble_eq_true rfl) (Nat.le_of_ble_eq_true rfl) (Nat.le_of_ble_eq_true rfl) rfl ?_
  exact SW.vreturn (pc := 56) g (leafV h ho) hx (Nat.le_of_ble_eq_true rfl) (Nat.le_of_ble_eq_true rfl) (dt dt_X2_init 30 rfl)

def f_work_init (N : Nat) (μ : sw_M) : Option sw_M :=
  wb (wrR μ 42 (fun _ => 0)) (fun μ1 =>
  wb (wrR μ1 43 (fun _ => 0)) (fun μ2 =>
  wb (wrR μ2 44 (fun _ => 0)) (fun μ3 =>
  some μ3)))
set_option maxRecDepth 100000 in
set_option maxHeartbeats 8000000 in
theorem mtc_f_work_init (l : Launch) (D : va_G) (cI cL : ClassId) (ad : Nat → Nat) (ν : sw_N) (N : Nat) (μ : sw_M) (o : sw_M) (h : f_work_init N μ = some o) : MetR l D cI cL yX9_init cX9_init 2 none 1 3 450 (sw_ext 42 ad) ad [.ref 41, .ref 35] ly17 μ ν none ly18 o ν := by
  refine MetR.ofI (n := 0) rfl (Nat.le_of_ble_eq_true rfl) (fun G g ho hm hname => ?_)
  have hx : sw_ext 42 ad ad := sw_ext_rf
  unfold f_work_init at h
  refine SW.aload_n (pc := 0) g (dt dt_X9_init 0 rfl) rfl ?_
  refine SW.objInit (pc := 1) g (dt dt_X9_init 1 rfl) (gtb_of (tbm_2 (List.mem_of_getElem? (i := 39) rfl)) rfl) oi_i oi_c (Nat.le_of_ble_eq_true rfl) (Nat.le_of_ble_eq_true rfl) ?_
  refine SW.aload_n (pc := 4) g (dt dt_X9_init 2 rfl) rfl ?_
  refine SW.sipush (pc := 5) (v := 150) g (dt dt_X9_init 3 rfl) ks_150 ?_
  refine SW.newa (pc := 8) (n := 42) (N := 150) g (dt dt_X9_init 4 rfl) (gtb_of (tbm_1 (List.mem_of_getElem? (i := 76) rfl)) rfl) (by decide) (by decide) (Nat.le_of_ble_eq_true rfl) rfl (Nat.le_of_ble_eq_true rfl) rfl rfl rfl (Nat.le_of_ble_eq_true rfl) (Nat.le_of_ble_eq_true rfl) (fun ad1 hx1 => ?_)
  have hx := sw_ext_trans hx hx1 (Nat.le_of_ble_eq_true rfl)
  have g := sw_ok_ext g hx1
  refine SW.genM h (fun μ1 h => ?_)
  refine SW.putR (pc := 10) g hname (dt dt_X9_init 5 rfl) fl_X9_9 rfl (sw_tyR cl_9 (Nat.le_of_ble_eq_true rfl) (fun _ => ⟨rfl, rfl⟩)) rfl (Nat.le_of_ble_eq_true rfl) ?_
  refine SW.aload_n (pc := 13) g (dt dt_X9_init 6 rfl) rfl ?_
  refine SW.sipush (pc := 14) (v := 150) g (dt dt_X9_init 7 rfl) ks_150 ?_
  refine SW.newa (pc := 17) (n := 43) (N := 150) g (dt dt_X9_init 8 rfl) (gtb_of (tbm_1 (List.mem_of_getElem? (i := 76) rfl)) rfl) (by decide) (by decide) (Nat.le_of_ble_eq_true rfl) rfl (Nat.le_of_ble_eq_true rfl) rfl rfl rfl (Nat.le_of_ble_eq_true rfl) (Nat.le_of_ble_eq_true rfl) (fun ad1 hx1 => ?_)
  have hx := sw_ext_trans hx hx1 (Nat.le_of_ble_eq_true rfl)
  have g := sw_ok_ext g hx1
  refine SW.genM h (fun μ2 h => ?_)
  refine SW.putR (pc := 19) g hname (dt dt_X9_init 9 rfl) fl_X9_15 rfl (sw_tyR cl_9 (Nat.le_of_ble_eq_true rfl) (fun _ => ⟨rfl, rfl⟩)) rfl (Nat.le_of_ble_eq_true rfl) ?_
  refine SW.aload_n (pc := 22) g (dt dt_X9_init 10 rfl) rfl ?_
  refine SW.sipush (pc := 23) (v := 150) g (dt dt_X9_init 11 rfl) ks_150 ?_
  refine SW.newa (pc := 26) (n := 44) (N := 150) g (dt dt_X9_init 12 rfl) (gtb_of (tbm_1 (List.mem_of_getElem? (i := 76) rfl)) rfl) (by decide) (by decide) (Nat.le_of_ble_eq_true rfl) rfl (Nat.le_of_ble_eq_true rfl) rfl rfl rfl (Nat.le_of_ble_eq_true rfl) (Nat.le_of_ble_eq_true rfl) (fun ad1 hx1 => ?_)
  have hx := sw_ext_trans hx hx1 (Nat.le_of_ble_eq_true rfl)
  have g := sw_ok_ext g hx1
  refine SW.genM h (fun μ3 h => ?_)
  refine SW.putR (pc := 28) g hname (dt dt_X9_init 13 rfl) fl_X9_18 rfl (sw_tyR cl_9 (Nat.le_of_ble_eq_true rfl) (fun _ => ⟨rfl, rfl⟩)) rfl (Nat.le_of_ble_eq_true rfl) ?_
  refine SW.aload_n (pc := 31) g (dt dt_X9_init 14 rfl) rfl ?_
  refine SW.aload_n (pc := 32) g (dt dt_X9_init 15 rfl) rfl ?_
  refine SW.putR (pc := 33) g hname (dt dt_X9_init 16 rfl) fl_X9_21 rfl (sw_tyR cl_9 (Nat.le_of_ble_eq_true rfl) (fun _ => ⟨rfl, rfl⟩)) rfl (Nat.le_of_ble_eq_true rfl) ?_
  refine SW.aload_n (pc := 36) g (dt dt_X9_init 17 rfl) rfl ?_
  refine SW.aload_n (pc := 37) g (dt dt_X9_init 18 rfl) rfl ?_
  refine SW.getR (pc := 38) g (dt dt_X9_init 19 rfl) fl_X9_25 rfl rfl ?_
  refine SW.putR (pc := 41) g hname (dt dt_X9_init 20 rfl) fl_X9_31 rfl (sw_tyR cl_9 (Nat.le_of_ble_eq_true rfl) (fun _ => ⟨rfl, rfl⟩)) rfl (Nat.le_of_ble_eq_true rfl) ?_
  exact SW.vreturn (pc := 44) g (leafV h ho) hx (Nat.le_of_ble_eq_true rfl) (Nat.le_of_ble_eq_true rfl) (dt dt_X9_init 21 rfl)

def f_shelf_init (N : Nat) (μ : sw_M) : Option sw_M :=
  wb (wrR μ 46 (fun _ => 0)) (fun μ1 =>
  wb (wrR μ1 47 (fun _ => 0)) (fun μ2 =>
  wb (wrR μ2 48 (fun _ => 0)) (fun μ3 =>
  some μ3)))
set_option maxRecDepth 100000 in
set_option maxHeartbeats 8000000 in
theorem mtc_f_shelf_init (l : Launch) (D : va_G) (cI cL : ClassId) (ad : Nat → Nat) (ν : sw_N) (N : Nat) (μ : sw_M) (o : sw_M) (h : f_shelf_init N μ = some o) : MetR l D cI cL yX6_init cX6_init 2 none 1 3 2549 (sw_ext 46 ad) ad [.ref 45, .ref 35] ly19 μ ν none ly20 o ν := by
  refine MetR.ofI (n := 0) rfl (Nat.le_of_ble_eq_true rfl) (fun G g ho hm hname => ?_)
  have hx : sw_ext 46 ad ad := sw_ext_rf
  unfold f_shelf_init at h
  refine SW.aload_n (pc := 0) g (dt dt_X6_init 0 rfl) rfl ?_
  refine SW.objInit (pc := 1) g (dt dt_X6_init 1 rfl) (gtb_of (tbm_2 (List.mem_of_getElem? (i := 75) rfl)) rfl) oi_i oi_c (Nat.le_of_ble_eq_true rfl) (Nat.le_of_ble_eq_true rfl) ?_
  refine SW.aload_n (pc := 4) g (dt dt_X6_init 2 rfl) rfl ?_
  refine SW.sipush (pc := 5) (v := 608) g (dt dt_X6_init 3 rfl) ks_608 ?_
  refine SW.newa (pc := 8) (n := 46) (N := 608) g (dt dt_X6_init 4 rfl) (gtb_of (tbm_1 (List.mem_of_getElem? (i := 76) rfl)) rfl) (by decide) (by decide) (Nat.le_of_ble_eq_true rfl) rfl (Nat.le_of_ble_eq_true rfl) rfl rfl rfl (Nat.le_of_ble_eq_true rfl) (Nat.le_of_ble_eq_true rfl) (fun ad1 hx1 => ?_)
  have hx := sw_ext_trans hx hx1 (Nat.le_of_ble_eq_true rfl)
  have g := sw_ok_ext g hx1
  refine SW.genM h (fun μ1 h => ?_)
  refine SW.putR (pc := 10) g hname (dt dt_X6_init 5 rfl) fl_X6_11 rfl (sw_tyR cl_6 (Nat.le_of_ble_eq_true rfl) (fun _ => ⟨rfl, rfl⟩)) rfl (Nat.le_of_ble_eq_true rfl) ?_
  refine SW.aload_n (pc := 13) g (dt dt_X6_init 6 rfl) rfl ?_
  refine SW.sipush (pc := 14) (v := 1938) g (dt dt_X6_init 7 rfl) ks_1938 ?_
  refine SW.newa (pc := 17) (n := 47) (N := 1938) g (dt dt_X6_init 8 rfl) (gtb_of (tbm_1 (List.mem_of_getElem? (i := 76) rfl)) rfl) (by decide) (by decide) (Nat.le_of_ble_eq_true rfl) rfl (Nat.le_of_ble_eq_true rfl) rfl rfl rfl (Nat.le_of_ble_eq_true rfl) (Nat.le_of_ble_eq_true rfl) (fun ad1 hx1 => ?_)
  have hx := sw_ext_trans hx hx1 (Nat.le_of_ble_eq_true rfl)
  have g := sw_ok_ext g hx1
  refine SW.genM h (fun μ2 h => ?_)
  refine SW.putR (pc := 19) g hname (dt dt_X6_init 9 rfl) fl_X6_17 rfl (sw_tyR cl_6 (Nat.le_of_ble_eq_true rfl) (fun _ => ⟨rfl, rfl⟩)) rfl (Nat.le_of_ble_eq_true rfl) ?_
  refine SW.aload_n (pc := 22) g (dt dt_X6_init 10 rfl) rfl ?_
  refine SW.iconst (pc := 23) (v := 3) g (dt dt_X6_init 11 rfl) ki_3 ?_
  refine SW.newa (pc := 24) (n := 48) (N := 3) g (dt dt_X6_init 12 rfl) (gtb_of (tbm_1 (List.mem_of_getElem? (i := 76) rfl)) rfl) (by decide) (by decide) (Nat.le_of_ble_eq_true rfl) rfl (Nat.le_of_ble_eq_true rfl) rfl rfl rfl (Nat.le_of_ble_eq_true rfl) (Nat.le_of_ble_eq_true rfl) (fun ad1 hx1 => ?_)
  have hx := sw_ext_trans hx hx1 (Nat.le_of_ble_eq_true rfl)
  have g := sw_ok_ext g hx1
  refine SW.genM h (fun μ3 h => ?_)
  refine SW.putR (pc := 26) g hname (dt dt_X6_init 13 rfl) fl_X6_20 rfl (sw_tyR cl_6 (Nat.le_of_ble_eq_true rfl) (fun _ => ⟨rfl, rfl⟩)) rfl (Nat.le_of_ble_eq_true rfl) ?_
  refine SW.aload_n (pc := 29) g (dt dt_X6_init 14 rfl) rfl ?_
  refine SW.aload_n (pc := 30) g (dt dt_X6_init 15 rfl) rfl ?_
  refine SW.putR (pc := 31) g hname (dt dt_X6_init 16 rfl) fl_X6_23 rfl (sw_tyR cl_6 (Nat.le_of_ble_eq_true rfl) (fun _ => ⟨rfl, rfl⟩)) rfl (Nat.le_of_ble_eq_true rfl) ?_
  exact SW.vreturn (pc := 34) g (leafV h ho) hx (Nat.le_of_ble_eq_true rfl) (Nat.le_of_ble_eq_true rfl) (dt dt_X6_init 17 rfl)

def f_ways_init (N : Nat) (μ : sw_M) : Option sw_M :=
  wb (wrR μ 50 (fun _ => 0)) (fun μ1 =>
  some μ1)
set_option maxRecDepth 100000 in
set_option maxHeartbeats 8000000 in
theorem mtc_f_ways_init (l : Launch) (D : va_G) (cI cL : ClassId) (ad : Nat → Nat) (ν : sw_N) (N : Nat) (μ : sw_M) (o : sw_M) (h : f_ways_init N μ = some o) : MetR l D cI cL yX8_init cX8_init 2 none 1 1 8 (sw_ext 50 ad) ad [.ref 49, .ref 35] ly21 μ ν none ly22 o ν := by
  refine MetR.ofI (n := 0) rfl (Nat.le_of_ble_eq_true rfl) (fun G g ho hm hname => ?_)
  have hx : sw_ext 50 ad ad := sw_ext_rf
  unfold f_ways_init at h
  refine SW.aload_n (pc := 0) g (dt dt_X8_init 0 rfl) rfl ?_
  refine SW.objInit (pc := 1) g (dt dt_X8_init 1 rfl) (gtb_of (tbm_2 (List.mem_of_getElem? (i := 102) rfl)) rfl) oi_i oi_c (Nat.le_of_ble_eq_true rfl) (Nat.le_of_ble_eq_true rfl) ?_
  refine SW.aload_n (pc := 4) g (dt dt_X8_init 2 rfl) rfl ?_
  refine SW.bipush (pc := 5) (v := 8) g (dt dt_X8_init 3 rfl) kb_8 ?_
  refine SW.newa (pc := 7) (n := 50) (N := 8) g (dt dt_X8_init 4 rfl) (gtb_of (tbm_1 (List.mem_of_getElem? (i := 76) rfl)) rfl) (by decide) (by decide) (Nat.le_of_ble_eq_true rfl) rfl (Nat.le_of_ble_eq_true rfl) rfl rfl rfl (Nat.le_of_ble_eq_true rfl) (Nat.le_of_ble_eq_true rfl) (fun ad1 hx1 => ?_)
  have hx := sw_ext_trans hx hx1 (Nat.le_of_ble_eq_true rfl)
  have g := sw_ok_ext g hx1
  refine SW.genM h (fun μ1 h => ?_)
  refine SW.putR (pc := 9) g hname (dt dt_X8_init 5 rfl) fl_X8_9 rfl (sw_tyR cl_8 (Nat.le_of_ble_eq_true rfl) (fun _ => ⟨rfl, rfl⟩)) rfl (Nat.le_of_ble_eq_true rfl) ?_
  refine SW.aload_n (pc := 12) g (dt dt_X8_init 6 rfl) rfl ?_
  refine SW.aload_n (pc := 13) g (dt dt_X8_init 7 rfl) rfl ?_
  refine SW.putR (pc := 14) g hname (dt dt_X8_init 8 rfl) fl_X8_15 rfl (sw_tyR cl_8 (Nat.le_of_ble_eq_true rfl) (fun _ => ⟨rfl, rfl⟩)) rfl (Nat.le_of_ble_eq_true rfl) ?_
  refine SW.aload_n (pc := 17) g (dt dt_X8_init 9 rfl) rfl ?_
  refine SW.aload_n (pc := 18) g (dt dt_X8_init 10 rfl) rfl ?_
  refine SW.getR (pc := 19) g (dt dt_X8_init 11 rfl) fl_X8_19 rfl rfl ?_
  refine SW.putR (pc := 22) g hname (dt dt_X8_init 12 rfl) fl_X8_25 rfl (sw_tyR cl_8 (Nat.le_of_ble_eq_true rfl) (fun _ => ⟨rfl, rfl⟩)) rfl (Nat.le_of_ble_eq_true rfl) ?_
  exact SW.vreturn (pc := 25) g (leafV h ho) hx (Nat.le_of_ble_eq_true rfl) (Nat.le_of_ble_eq_true rfl) (dt dt_X8_init 13 rfl)

def f_guess_init (N : Nat) (μ : sw_M) : Option sw_M :=
  wb (wrR μ 52 (fun _ => 0)) (fun μ1 =>
  wb (wrR μ1 53 (fun _ => 0)) (fun μ2 =>
  wb (wrR μ2 54 (fun _ => 0)) (fun μ3 =>
  some μ3)))
set_option maxRecDepth 100000 in
set_option maxHeartbeats 8000000 in
theorem mtc_f_guess_init (l : Launch) (D : va_G) (cI cL : ClassId) (ad : Nat → Nat) (ν : sw_N) (N : Nat) (μ : sw_M) (o : sw_M) (h : f_guess_init N μ = some o) : MetR l D cI cL yX3_init cX3_init 3 none 1 3 488 (sw_ext 52 ad) ad [.ref 51, .ref 35, .ref 29] ly23 μ ν none ly24 o ν := by
  refine MetR.ofI (n := 0) rfl (Nat.le_of_ble_eq_true rfl) (fun G g ho hm hname => ?_)
  have hx : sw_ext 52 ad ad := sw_ext_rf
  unfold f_guess_init at h
  refine SW.aload_n (pc := 0) g (dt dt_X3_init 0 rfl) rfl ?_
  refine SW.objInit (pc := 1) g (dt dt_X3_init 1 rfl) (gtb_of (tbm_2 (List.mem_of_getElem? (i := 118) rfl)) rfl) oi_i oi_c (Nat.le_of_ble_eq_true rfl) (Nat.le_of_ble_eq_true rfl) ?_
  refine SW.aload_n (pc := 4) g (dt dt_X3_init 2 rfl) rfl ?_
  refine SW.sipush (pc := 5) (v := 240) g (dt dt_X3_init 3 rfl) ks_240 ?_
  refine SW.newa (pc := 8) (n := 52) (N := 240) g (dt dt_X3_init 4 rfl) (gtb_of (tbm_1 (List.mem_of_getElem? (i := 76) rfl)) rfl) (by decide) (by decide) (Nat.le_of_ble_eq_true rfl) rfl (Nat.le_of_ble_eq_true rfl) rfl rfl rfl (Nat.le_of_ble_eq_true rfl) (Nat.le_of_ble_eq_true rfl) (fun ad1 hx1 => ?_)
  have hx := sw_ext_trans hx hx1 (Nat.le_of_ble_eq_true rfl)
  have g := sw_ok_ext g hx1
  refine SW.genM h (fun μ1 h => ?_)
  refine SW.putR (pc := 10) g hname (dt dt_X3_init 5 rfl) fl_X3_11 rfl (sw_tyR cl_3 (Nat.le_of_ble_eq_true rfl) (fun _ => ⟨rfl, rfl⟩)) rfl (Nat.le_of_ble_eq_true rfl) ?_
  refine SW.aload_n (pc := 13) g (dt dt_X3_init 6 rfl) rfl ?_
  refine SW.sipush (pc := 14) (v := 240) g (dt dt_X3_init 7 rfl) ks_240 ?_
  refine SW.newa (pc := 17) (n := 53) (N := 240) g (dt dt_X3_init 8 rfl) (gtb_of (tbm_1 (List.mem_of_getElem? (i := 76) rfl)) rfl) (by decide) (by decide) (Nat.le_of_ble_eq_true rfl) rfl (Nat.le_of_ble_eq_true rfl) rfl rfl rfl (Nat.le_of_ble_eq_true rfl) (Nat.le_of_ble_eq_true rfl) (fun ad1 hx1 => ?_)
  have hx := sw_ext_trans hx hx1 (Nat.le_of_ble_eq_true rfl)
  have g := sw_ok_ext g hx1
  refine SW.genM h (fun μ2 h => ?_)
  refine SW.putR (pc := 19) g hname (dt dt_X3_init 9 rfl) fl_X3_15 rfl (sw_tyR cl_3 (Nat.le_of_ble_eq_true rfl) (fun _ => ⟨rfl, rfl⟩)) rfl (Nat.le_of_ble_eq_true rfl) ?_
  refine SW.aload_n (pc := 22) g (dt dt_X3_init 10 rfl) rfl ?_
  refine SW.bipush (pc := 23) (v := 8) g (dt dt_X3_init 11 rfl) kb_8 ?_
  refine SW.newa (pc := 25) (n := 54) (N := 8) g (dt dt_X3_init 12 rfl) (gtb_of (tbm_1 (List.mem_of_getElem? (i := 76) rfl)) rfl) (by decide) (by decide) (Nat.le_of_ble_eq_true rfl) rfl (Nat.le_of_ble_eq_true rfl) rfl rfl rfl (Nat.le_of_ble_eq_true rfl) (Nat.le_of_ble_eq_true rfl) (fun ad1 hx1 => ?_)
  have hx := sw_ext_trans hx hx1 (Nat.le_of_ble_eq_true rfl)
  have g := sw_ok_ext g hx1
  refine SW.genM h (fun μ3 h => ?_)
  refine SW.putR (pc := 27) g hname (dt dt_X3_init 13 rfl) fl_X3_18 rfl (sw_tyR cl_3 (Nat.le_of_ble_eq_true rfl) (fun _ => ⟨rfl, rfl⟩)) rfl (Nat.le_of_ble_eq_true rfl) ?_
  refine SW.aload_n (pc := 30) g (dt dt_X3_init 14 rfl) rfl ?_
  refine SW.aload_n (pc := 31) g (dt dt_X3_init 15 rfl) rfl ?_
  refine SW.putR (pc := 32) g hname (dt dt_X3_init 16 rfl) fl_X3_21 rfl (sw_tyR cl_3 (Nat.le_of_ble_eq_true rfl) (fun _ => ⟨rfl, rfl⟩)) rfl (Nat.le_of_ble_eq_true rfl) ?_
  refine SW.aload_n (pc := 35) g (dt dt_X3_init 17 rfl) rfl ?_
  refine SW.aload_n (pc := 36) g (dt dt_X3_init 18 rfl) rfl ?_
  refine SW.putR (pc := 37) g hname (dt dt_X3_init 19 rfl) fl_X3_25 rfl (sw_tyR cl_3 (Nat.le_of_ble_eq_true rfl) (fun _ => ⟨rfl, rfl⟩)) rfl (Nat.le_of_ble_eq_true rfl) ?_
  exact SW.vreturn (pc := 40) g (leafV h ho) hx (Nat.le_of_ble_eq_true rfl) (Nat.le_of_ble_eq_true rfl) (dt dt_X3_init 20 rfl)

def f_dream_init (N : Nat) (μ : sw_M) : Option sw_M :=
  wb (wrR μ 58 (fun _ => 0)) (fun μ1 =>
  wb (wrR μ1 59 (fun _ => 0)) (fun μ2 =>
  wb (wrR μ2 60 (fun _ => 0)) (fun μ3 =>
  wb (wrR μ3 61 (fun _ => 0)) (fun μ4 =>
  wb (wrR μ4 62 (fun _ => 0)) (fun μ5 =>
  Option.bind (f_dream_begin_ly27 N μ5) (fun r6 =>
  some r6))))))
set_option maxRecDepth 100000 in
set_option maxHeartbeats 8000000 in
theorem mtc_f_dream_init (l : Launch) (D : va_G) (cI cL : ClassId) (ad : Nat → Nat) (ν : sw_N) (N : Nat) (μ : sw_M) (o : sw_M) (h : f_dream_init N μ = some o) : MetR l D cI cL yX2_init cX2_init 3 none 2 5 34 (sw_ext 58 ad) ad [.ref 57, .ref 3, .ref 19] ly26 μ ν none ly27 o ν := by
  refine MetR.ofI (n := 0) rfl (Nat.le_of_ble_eq_true rfl) (fun G g ho hm hname => ?_)
  have hx : sw_ext 58 ad ad := sw_ext_rf
  unfold f_dream_init at h
  refine SW.aload_n (pc := 0) g (dt dt_X2_init 0 rfl) rfl ?_
  refine SW.objInit (pc := 1) g (dt dt_X2_init 1 rfl) (gtb_of (tbm_1 (List.mem_of_getElem? (i := 213) rfl)) rfl) oi_i oi_c (Nat.le_of_ble_eq_true rfl) (Nat.le_of_ble_eq_true rfl) ?_
  refine SW.aload_n (pc := 4) g (dt dt_X2_init 2 rfl) rfl ?_
  refine SW.bipush (pc := 5) (v := 12) g (dt dt_X2_init 3 rfl) kb_12 ?_
  refine SW.newa (pc := 7) (n := 58) (N := 12) g (dt dt_X2_init 4 rfl) (gtb_of (tbm_1 (List.mem_of_getElem? (i := 76) rfl)) rfl) (by decide) (by decide) (Nat.le_of_ble_eq_true rfl) rfl (Nat.le_of_ble_eq_true rfl) rfl rfl rfl (Nat.le_of_ble_eq_true rfl) (Nat.le_of_ble_eq_true rfl) (fun ad1 hx1 => ?_)
  have hx := sw_ext_trans hx hx1 (Nat.le_of_ble_eq_true rfl)
  have g := sw_ok_ext g hx1
  refine SW.genM h (fun μ1 h => ?_)
  refine SW.putR (pc := 9) g hname (dt dt_X2_init 5 rfl) fl_X2_9 rfl (sw_tyR cl_2 (Nat.le_of_ble_eq_true rfl) (fun _ => ⟨rfl, rfl⟩)) rfl (Nat.le_of_ble_eq_true rfl) ?_
  refine SW.aload_n (pc := 12) g (dt dt_X2_init 6 rfl) rfl ?_
  refine SW.bipush (pc := 13) (v := 6) g (dt dt_X2_init 7 rfl) kb_6 ?_
  refine SW.newa (pc := 15) (n := 59) (N := 6) g (dt dt_X2_init 8 rfl) (gtb_of (tbm_1 (List.mem_of_getElem? (i := 76) rfl)) rfl) (by decide) (by decide) (Nat.le_of_ble_eq_true rfl) rfl (Nat.le_of_ble_eq_true rfl) rfl rfl rfl (Nat.le_of_ble_eq_true rfl) (Nat.le_of_ble_eq_true rfl) (fun ad1 hx1 => ?_)
  have hx := sw_ext_trans hx hx1 (Nat.le_of_ble_eq_true rfl)
  have g := sw_ok_ext g hx1
  refine SW.genM h (fun μ2 h => ?_)
  refine SW.putR (pc := 17) g hname (dt dt_X2_init 9 rfl) fl_X2_15 rfl (sw_tyR cl_2 (Nat.le_of_ble_eq_true rfl) (fun _ => ⟨rfl, rfl⟩)) rfl (Nat.le_of_ble_eq_true rfl) ?_
  refine SW.aload_n (pc := 20) g (dt dt_X2_init 10 rfl) rfl ?_
  refine SW.bipush (pc := 21) (v := 6) g (dt dt_X2_init 11 rfl) kb_6 ?_
  refine SW.newa (pc := 23) (n := 60) (N := 6) g (dt dt_X2_init 12 rfl) (gtb_of (tbm_1 (List.mem_of_getElem? (i := 76) rfl)) rfl) (by decide) (by decide) (Nat.le_of_ble_eq_true rfl) rfl (Nat.le_of_ble_eq_true rfl) rfl rfl rfl (Nat.le_of_ble_eq_true rfl) (Nat.le_of_ble_eq_true rfl) (fun ad1 hx1 => ?_)
  have hx := sw_ext_trans hx hx1 (Nat.le_of_ble_eq_true rfl)
  have g := sw_ok_ext g hx1
  refine SW.genM h (fun μ3 h => ?_)
  refine SW.putR (pc := 25) g hname (dt dt_X2_init 13 rfl) fl_X2_18 rfl (sw_tyR cl_2 (Nat.le_of_ble_eq_true rfl) (fun _ => ⟨rfl, rfl⟩)) rfl (Nat.le_of_ble_eq_true rfl) ?_
  refine SW.aload_n (pc := 28) g (dt dt_X2_init 14 rfl) rfl ?_
  refine SW.iconst (pc := 29) (v := 5) g (dt dt_X2_init 15 rfl) ki_5 ?_
  refine SW.newa (pc := 30) (n := 61) (N := 5) g (dt dt_X2_init 16 rfl) (gtb_of (tbm_1 (List.mem_of_getElem? (i := 76) rfl)) rfl) (by decide) (by decide) (Nat.le_of_ble_eq_true rfl) rfl (Nat.le_of_ble_eq_true rfl) rfl rfl rfl (Nat.le_of_ble_eq_true rfl) (Nat.le_of_ble_eq_true rfl) (fun ad1 hx1 => ?_)
  have hx := sw_ext_trans hx hx1 (Nat.le_of_ble_eq_true rfl)
  have g := sw_ok_ext g hx1
  refine SW.genM h (fun μ4 h => ?_)
  refine SW.putR (pc := 32) g hname (dt dt_X2_init 17 rfl) fl_X2_21 rfl (sw_tyR cl_2 (Nat.le_of_ble_eq_true rfl) (fun _ => ⟨rfl, rfl⟩)) rfl (Nat.le_of_ble_eq_true rfl) ?_
  refine SW.aload_n (pc := 35) g (dt dt_X2_init 18 rfl) rfl ?_
  refine SW.iconst (pc := 36) (v := 5) g (dt dt_X2_init 19 rfl) ki_5 ?_
  refine SW.newa (pc := 37) (n := 62) (N := 5) g (dt dt_X2_init 20 rfl) (gtb_of (tbm_1 (List.mem_of_getElem? (i := 76) rfl)) rfl) (by decide) (by decide) (Nat.le_of_ble_eq_true rfl) rfl (Nat.le_of_ble_eq_true rfl) rfl rfl rfl (Nat.le_of_ble_eq_true rfl) (Nat.le_of_ble_eq_true rfl) (fun ad1 hx1 => ?_)
  have hx := sw_ext_trans hx hx1 (Nat.le_of_ble_eq_true rfl)
  have g := sw_ok_ext g hx1
  refine SW.genM h (fun μ5 h => ?_)
  refine SW.putR (pc := 39) g hname (dt dt_X2_init 21 rfl) fl_X2_24 rfl (sw_tyR cl_2 (Nat.le_of_ble_eq_true rfl) (fun _ => ⟨rfl, rfl⟩)) rfl (Nat.le_of_ble_eq_true rfl) ?_
  refine SW.aload_n (pc := 42) g (dt dt_X2_init 22 rfl) rfl ?_
  refine SW.aload_n (pc := 43) g (dt dt_X2_init 23 rfl) rfl ?_
  refine SW.putR (pc := 44) g hname (dt dt_X2_init 24 rfl) fl_X2_27 rfl (sw_tyR cl_2 (Nat.le_of_ble_eq_true rfl) (fun _ => ⟨rfl, rfl⟩)) rfl (Nat.le_of_ble_eq_true rfl) ?_
  refine SW.aload_n (pc := 47) g (dt dt_X2_init 25 rfl) rfl ?_
  refine SW.aload_n (pc := 48) g (dt dt_X2_init 26 rfl) rfl ?_
  refine SW.putR (pc := 49) g hname (dt dt_X2_init 27 rfl) fl_X2_31 rfl (sw_tyR cl_2 (Nat.le_of_ble_eq_true rfl) (fun _ => ⟨rfl, rfl⟩)) rfl (Nat.le_of_ble_eq_true rfl) ?_
  refine SW.aload_n (pc := 52) g (dt dt_X2_init 28 rfl) rfl ?_
  obtain ⟨r6, h6, h⟩ := bindI h
  refine SW.callVv (pc := 53) g (dt dt_X2_init 29 rfl) (mt_f_dream_begin_ly27 _ _ _ _ _ ν N μ5 r6 h6) me_X2_begin mv_X2_begin ml_X2_35 rfl rfl rfl (Nat.le_of_ble_eq_true rfl) (Nat.le_of_ble_eq_true rfl) (Nat.le_of_ble_eq_true rfl) (Nat.le_of_ble_eq_true rfl) rfl ?_
  exact SW.vreturn (pc := 56) g (leafV h ho) hx (Nat.le_of_ble_eq_true rfl) (Nat.le_of_ble_eq_true rfl) (dt dt_X2_init 30 rfl)

def f_autm_init (N : Nat) (μ : sw_M) : Option sw_M :=
  wb (wrR μ 56 (fun _ => 0)) (fun μ1 =>
  wb (wrR μ1 57 (fun _ => 0)) (fun μ2 =>
  Option.bind (f_dream_init N μ2) (fun r3 =>
  some r3)))
set_option maxRecDepth 100000 in
set_option maxHeartbeats 8000000 in
theorem mtc_f_autm_init (l : Launch) (D : va_G) (cI cL : ClassId) (ad : Nat → Nat) (ν : sw_N) (N : Nat) (μ : sw_M) (o : sw_M) (h : f_autm_init N μ = some o) : MetR l D cI cL yX0_init cX0_init 2 none 3 7 83 (sw_ext 56 ad) ad [.ref 55, .ref 35] ly25 μ ν none ly28 o ν := by
  refine MetR.ofI (n := 0) rfl (Nat.le_of_ble_eq_true rfl) (fun G g ho hm hname => ?_)
  have hx : sw_ext 56 ad ad := sw_ext_rf
  unfold f_autm_init at h
  refine SW.aload_n (pc := 0) g (dt dt_X0_init 0 rfl) rfl ?_
  refine SW.objInit (pc := 1) g (dt dt_X0_init 1 rfl) (gtb_of (tbm_2 (List.mem_of_getElem? (i := 152) rfl)) rfl) oi_i oi_c (Nat.le_of_ble_eq_true rfl) (Nat.le_of_ble_eq_true rfl) ?_
  refine SW.aload_n (pc := 4) g (dt dt_X0_init 2 rfl) rfl ?_
  refine SW.bipush (pc := 5) (v := 38) g (dt dt_X0_init 3 rfl) kb_38 ?_
  refine SW.newa (pc := 7) (n := 56) (N := 38) g (dt dt_X0_init 4 rfl) (gtb_of (tbm_1 (List.mem_of_getElem? (i := 76) rfl)) rfl) (by decide) (by decide) (Nat.le_of_ble_eq_true rfl) rfl (Nat.le_of_ble_eq_true rfl) rfl rfl rfl (Nat.le_of_ble_eq_true rfl) (Nat.le_of_ble_eq_true rfl) (fun ad1 hx1 => ?_)
  have hx := sw_ext_trans hx hx1 (Nat.le_of_ble_eq_true rfl)
  have g := sw_ok_ext g hx1
  refine SW.genM h (fun μ1 h => ?_)
  refine SW.putR (pc := 9) g hname (dt dt_X0_init 5 rfl) fl_X0_9 rfl (sw_tyR cl_0 (Nat.le_of_ble_eq_true rfl) (fun _ => ⟨rfl, rfl⟩)) rfl (Nat.le_of_ble_eq_true rfl) ?_
  refine SW.aload_n (pc := 12) g (dt dt_X0_init 6 rfl) rfl ?_
  refine SW.aload_n (pc := 13) g (dt dt_X0_init 7 rfl) rfl ?_
  refine SW.putR (pc := 14) g hname (dt dt_X0_init 8 rfl) fl_X0_15 rfl (sw_tyR cl_0 (Nat.le_of_ble_eq_true rfl) (fun _ => ⟨rfl, rfl⟩)) rfl (Nat.le_of_ble_eq_true rfl) ?_
  refine SW.aload_n (pc := 17) g (dt dt_X0_init 9 rfl) rfl ?_
  refine SW.new (pc := 18) (n := 57) (sls := [some none, some none, none, none, none, none, some none, some none, some none, some none, some none]) g (dt dt_X0_init 10 rfl) cl_2 (gtb_of (tbm_2 (List.mem_of_getElem? (i := 153) rfl)) rfl) (gtb_of (tbm_1 (List.mem_of_getElem? (i := 209) rfl)) rfl) (gtb_of (tbm_1 (List.mem_of_getElem? (i := 7) rfl)) rfl) df_2 rfl rfl (Nat.le_of_ble_eq_true rfl) rfl rfl rfl (Nat.le_of_ble_eq_true rfl) (Nat.le_of_ble_eq_true rfl) (fun ad1 hx1 => ?_)
  have hx := sw_ext_trans hx hx1 (Nat.le_of_ble_eq_true rfl)
  have g := sw_ok_ext g hx1
  refine SW.genM h (fun μ2 h => ?_)
  refine SW.dup (pc := 21) g (dt dt_X0_init 11 rfl) rfl ?_
  refine SW.aload_n (pc := 22) g (dt dt_X0_init 12 rfl) rfl ?_
  refine SW.getR (pc := 23) g (dt dt_X0_init 13 rfl) fl_X0_19 rfl rfl ?_
  refine SW.aload_n (pc := 26) g (dt dt_X0_init 14 rfl) rfl ?_
  refine SW.getRN (pc := 27) (k := 1) g (dt dt_X0_init 15 rfl) cl_2 (Nat.le_of_ble_eq_true rfl) (tbm_1 (List.mem_of_getElem? (i := 226) rfl)) rfl rfl ?_
  obtain ⟨r3, h3, h⟩ := bindI h
  refine SW.callI (pc := 30) (n := 58) g (dt dt_X0_init 16 rfl) (mtc_f_dream_init _ _ _ _ _ ν N μ2 r3 h3) me_X2_init mi_X2_init rfl (Or.inl ml_X0_27) rfl (Nat.le_of_ble_eq_true rfl) (Nat.le_of_ble_eq_true rfl) (Nat.le_of_ble_eq_true rfl) (Nat.le_of_ble_eq_true rfl) rfl rfl rfl (fun ad1 hx1 => ?_)
  have hx := sw_ext_trans hx hx1 (Nat.le_of_ble_eq_true rfl)
  have g := sw_ok_ext g hx1
  refine SW.putR (pc := 33) g hname (dt dt_X0_init 17 rfl) fl_X0_30 rfl (sw_tyR cl_0 (Nat.le_of_ble_eq_true rfl) (fun _ => ⟨rfl, rfl⟩)) rfl (Nat.le_of_ble_eq_true rfl) ?_
  exact SW.vreturn (pc := 36) g (leafV h ho) hx (Nat.le_of_ble_eq_true rfl) (Nat.le_of_ble_eq_true rfl) (dt dt_X0_init 18 rfl)

def f_x_init (N : Nat) (μ : sw_M) : Option sw_M :=
  wb (wrR μ 1 (fun _ => 0)) (fun μ1 =>
  Option.bind (f_tape_init N μ1) (fun r2 =>
  wb (wrR r2 3 (fun _ => 0)) (fun μ3 =>
  Option.bind (f_land_init N μ3) (fun r4 =>
  wb (wrR r4 11 (fun _ => 0)) (fun μ5 =>
  Option.bind (f_landR_init N μ5) (fun r6 =>
  wb (wrR r6 19 (fun _ => 0)) (fun μ7 =>
  Option.bind (f_law_init N μ7) (fun r8 =>
  wb (wrR r8 24 (fun _ => 0)) (fun μ9 =>
  Option.bind (f_lawR_init N μ9) (fun r10 =>
  wb (wrR r10 29 (fun _ => 0)) (fun μ11 =>
  Option.bind (f_book_init N μ11) (fun r12 =>
  wb (wrR r12 32 (fun _ => 0)) (fun μ13 =>
  Option.bind (f_bookR_init N μ13) (fun r14 =>
  wb (wrR r14 35 (fun _ => 0)) (fun μ15 =>
  Option.bind (f_days_init N μ15) (fun r16 =>
  wb (wrR r16 41 (fun _ => 0)) (fun μ17 =>
  Option.bind (f_work_init N μ17) (fun r18 =>
  wb (wrR r18 45 (fun _ => 0)) (fun μ19 =>
  Option.bind (f_shelf_init N μ19) (fun r20 =>
  wb (wrR r20 49 (fun _ => 0)) (fun μ21 =>
  Option.bind (f_ways_init N μ21) (fun r22 =>
  wb (wrR r22 51 (fun _ => 0)) (fun μ23 =>
  Option.bind (f_guess_init N μ23) (fun r24 =>
  wb (wrR r24 55 (fun _ => 0)) (fun μ25 =>
  Option.bind (f_autm_init N μ25) (fun r26 =>
  some r26))))))))))))))))))))))))))
set_option maxRecDepth 100000 in
set_option maxHeartbeats 8000000 in
theorem mtc_f_x_init (l : Launch) (D : va_G) (cI cL : ClassId) (ad : Nat → Nat) (ν : sw_N) (N : Nat) (μ : sw_M) (o : sw_M) (h : f_x_init N μ = some o) : MetR l D cI cL yX10_init cX10_init 1 none 5 62 5366 (sw_ext 1 ad) ad [.ref 0] ly0 μ ν none ly29 o ν := by
  refine MetR.ofI (n := 0) rfl (Nat.le_of_ble_eq_true rfl) (fun G g ho hm hname => ?_)
  have hx : sw_ext 1 ad ad := sw_ext_rf
  unfold f_x_init at h
  refine SW.aload_n (pc := 0) g (dt dt_X10_init 0 rfl) rfl ?_
  refine SW.objInit (pc := 1) g (dt dt_X10_init 1 rfl) (gtb_of (tbm_1 (List.mem_of_getElem? (i := 30) rfl)) rfl) oi_i oi_c (Nat.le_of_ble_eq_true rfl) (Nat.le_of_ble_eq_true rfl) ?_
  refine SW.aload_n (pc := 4) g (dt dt_X10_init 2 rfl) rfl ?_
  refine SW.new (pc := 5) (n := 1) (sls := [some none, none, none, none, none, none, none, none, none]) g (dt dt_X10_init 3 rfl) cl_7 (gtb_of (tbm_1 (List.mem_of_getElem? (i := 33) rfl)) rfl) (gtb_of (tbm_1 (List.mem_of_getElem? (i := 34) rfl)) rfl) (gtb_of (tbm_1 (List.mem_of_getElem? (i := 2) rfl)) rfl) df_7 rfl rfl (Nat.le_of_ble_eq_true rfl) rfl rfl rfl (Nat.le_of_ble_eq_true rfl) (Nat.le_of_ble_eq_true rfl) (fun ad1 hx1 => ?_)
  have hx := sw_ext_trans hx hx1 (Nat.le_of_ble_eq_true rfl)
  have g := sw_ok_ext g hx1
  refine SW.genM h (fun μ1 h => ?_)
  refine SW.dup (pc := 8) g (dt dt_X10_init 4 rfl) rfl ?_
  obtain ⟨r2, h2, h⟩ := bindI h
  refine SW.callI (pc := 9) (n := 2) g (dt dt_X10_init 5 rfl) (mtc_f_tape_init _ _ _ _ _ ν N μ1 r2 h2) me_X7_init mi_X7_init rfl (Or.inr ⟨_, mn_X10_9⟩) rfl (Nat.le_of_ble_eq_true rfl) (Nat.le_of_ble_eq_true rfl) (Nat.le_of_ble_eq_true rfl) (Nat.le_of_ble_eq_true rfl) rfl rfl rfl (fun ad1 hx1 => ?_)
  have hx := sw_ext_trans hx hx1 (Nat.le_of_ble_eq_true rfl)
  have g := sw_ok_ext g hx1
  refine SW.putR (pc := 12) g hname (dt dt_X10_init 6 rfl) fl_X10_10 rfl (sw_tyR cl_10 (Nat.le_of_ble_eq_true rfl) (fun _ => ⟨rfl, rfl⟩)) rfl (Nat.le_of_ble_eq_true rfl) ?_
  refine SW.aload_n (pc := 15) g (dt dt_X10_init 7 rfl) rfl ?_
  refine SW.new (pc := 16) (n := 3) (sls := [none, none, none, none, none, some none, some none, some none, some none, some none, some none, some none]) g (dt dt_X10_init 8 rfl) cl_4 (gtb_of (tbm_1 (List.mem_of_getElem? (i := 77) rfl)) rfl) (gtb_of (tbm_1 (List.mem_of_getElem? (i := 78) rfl)) rfl) (gtb_of (tbm_1 (List.mem_of_getElem? (i := 3) rfl)) rfl) df_4 rfl rfl (Nat.le_of_ble_eq_true rfl) rfl rfl rfl (Nat.le_of_ble_eq_true rfl) (Nat.le_of_ble_eq_true rfl) (fun ad1 hx1 => ?_)
  have hx := sw_ext_trans hx hx1 (Nat.le_of_ble_eq_true rfl)
  have g := sw_ok_ext g hx1
  refine SW.genM h (fun μ3 h => ?_)
  refine SW.dup (pc := 19) g (dt dt_X10_init 9 rfl) rfl ?_
  obtain ⟨r4, h4, h⟩ := bindI h
  refine SW.callI (pc := 20) (n := 4) g (dt dt_X10_init 10 rfl) (mtc_f_land_init _ _ _ _ _ ν N μ3 r4 h4) me_X4_init mi_X4_init rfl (Or.inr ⟨_, mn_X10_18⟩) rfl (Nat.le_of_ble_eq_true rfl) (Nat.le_of_ble_eq_true rfl) (Nat.le_of_ble_eq_true rfl) (Nat.le_of_ble_eq_true rfl) rfl rfl rfl (fun ad1 hx1 => ?_)
  have hx := sw_ext_trans hx hx1 (Nat.le_of_ble_eq_true rfl)
  have g := sw_ok_ext g hx1
  refine SW.putR (pc := 23) g hname (dt dt_X10_init 11 rfl) fl_X10_19 rfl (sw_tyR cl_10 (Nat.le_of_ble_eq_true rfl) (fun _ => ⟨rfl, rfl⟩)) rfl (Nat.le_of_ble_eq_true rfl) ?_
  refine SW.aload_n (pc := 26) g (dt dt_X10_init 12 rfl) rfl ?_
  refine SW.new (pc := 27) (n := 11) (sls := [none, none, none, none, none, some none, some none, some none, some none, some none, some none, some none]) g (dt dt_X10_init 13 rfl) cl_4 (gtb_of (tbm_1 (List.mem_of_getElem? (i := 77) rfl)) rfl) (gtb_of (tbm_1 (List.mem_of_getElem? (i := 78) rfl)) rfl) (gtb_of (tbm_1 (List.mem_of_getElem? (i := 3) rfl)) rfl) df_4 rfl rfl (Nat.le_of_ble_eq_true rfl) rfl rfl rfl (Nat.le_of_ble_eq_true rfl) (Nat.le_of_ble_eq_true rfl) (fun ad1 hx1 => ?_)
  have hx := sw_ext_trans hx hx1 (Nat.le_of_ble_eq_true rfl)
  have g := sw_ok_ext g hx1
  refine SW.genM h (fun μ5 h => ?_)
  refine SW.dup (pc := 30) g (dt dt_X10_init 14 rfl) rfl ?_
  obtain ⟨r6, h6, h⟩ := bindI h
  refine SW.callI (pc := 31) (n := 12) g (dt dt_X10_init 15 rfl) (mtc_f_landR_init _ _ _ _ _ ν N μ5 r6 h6) me_X4_init mi_X4_init rfl (Or.inr ⟨_, mn_X10_18⟩) rfl (Nat.le_of_ble_eq_true rfl) (Nat.le_of_ble_eq_true rfl) (Nat.le_of_ble_eq_true rfl) (Nat.le_of_ble_eq_true rfl) rfl rfl rfl (fun ad1 hx1 => ?_)
  have hx := sw_ext_trans hx hx1 (Nat.le_of_ble_eq_true rfl)
  have g := sw_ok_ext g hx1
  refine SW.putR (pc := 34) g hname (dt dt_X10_init 16 rfl) fl_X10_23 rfl (sw_tyR cl_10 (Nat.le_of_ble_eq_true rfl) (fun _ => ⟨rfl, rfl⟩)) rfl (Nat.le_of_ble_eq_true rfl) ?_
  refine SW.aload_n (pc := 37) g (dt dt_X10_init 17 rfl) rfl ?_
  refine SW.new (pc := 38) (n := 19) (sls := [some none, some none, some none, some none, none, none]) g (dt dt_X10_init 18 rfl) cl_5 (gtb_of (tbm_1 (List.mem_of_getElem? (i := 149) rfl)) rfl) (gtb_of (tbm_1 (List.mem_of_getElem? (i := 150) rfl)) rfl) (gtb_of (tbm_1 (List.mem_of_getElem? (i := 4) rfl)) rfl) df_5 rfl rfl (Nat.le_of_ble_eq_true rfl) rfl rfl rfl (Nat.le_of_ble_eq_true rfl) (Nat.le_of_ble_eq_true rfl) (fun ad1 hx1 => ?_)
  have hx := sw_ext_trans hx hx1 (Nat.le_of_ble_eq_true rfl)
  have g := sw_ok_ext g hx1
  refine SW.genM h (fun μ7 h => ?_)
  refine SW.dup (pc := 41) g (dt dt_X10_init 19 rfl) rfl ?_
  obtain ⟨r8, h8, h⟩ := bindI h
  refine SW.callI (pc := 42) (n := 20) g (dt dt_X10_init 20 rfl) (mtc_f_law_init _ _ _ _ _ ν N μ7 r8 h8) me_X5_init mi_X5_init rfl (Or.inl ml_X10_28) rfl (Nat.le_of_ble_eq_true rfl) (Nat.le_of_ble_eq_true rfl) (Nat.le_of_ble_eq_true rfl) (Nat.le_of_ble_eq_true rfl) rfl rfl rfl (fun ad1 hx1 => ?_)
  have hx := sw_ext_trans hx hx1 (Nat.le_of_ble_eq_true rfl)
  have g := sw_ok_ext g hx1
  refine SW.putR (pc := 45) g hname (dt dt_X10_init 21 rfl) fl_X10_29 rfl (sw_tyR cl_10 (Nat.le_of_ble_eq_true rfl) (fun _ => ⟨rfl, rfl⟩)) rfl (Nat.le_of_ble_eq_true rfl) ?_
  refine SW.aload_n (pc := 48) g (dt dt_X10_init 22 rfl) rfl ?_
  refine SW.new (pc := 49) (n := 24) (sls := [some none, some none, some none, some none, none, none]) g (dt dt_X10_init 23 rfl) cl_5 (gtb_of (tbm_1 (List.mem_of_getElem? (i := 149) rfl)) rfl) (gtb_of (tbm_1 (List.mem_of_getElem? (i := 150) rfl)) rfl) (gtb_of (tbm_1 (List.mem_of_getElem? (i := 4) rfl)) rfl) df_5 rfl rfl (Nat.le_of_ble_eq_true rfl) rfl rfl rfl (Nat.le_of_ble_eq_true rfl) (Nat.le_of_ble_eq_true rfl) (fun ad1 hx1 => ?_)
  have hx := sw_ext_trans hx hx1 (Nat.le_of_ble_eq_true rfl)
  have g := sw_ok_ext g hx1
  refine SW.genM h (fun μ9 h => ?_)
  refine SW.dup (pc := 52) g (dt dt_X10_init 24 rfl) rfl ?_
  obtain ⟨r10, h10, h⟩ := bindI h
  refine SW.callI (pc := 53) (n := 25) g (dt dt_X10_init 25 rfl) (mtc_f_lawR_init _ _ _ _ _ ν N μ9 r10 h10) me_X5_init mi_X5_init rfl (Or.inl ml_X10_28) rfl (Nat.le_of_ble_eq_true rfl) (Nat.le_of_ble_eq_true rfl) (Nat.le_of_ble_eq_true rfl) (Nat.le_of_ble_eq_true rfl) rfl rfl rfl (fun ad1 hx1 => ?_)
  have hx := sw_ext_trans hx hx1 (Nat.le_of_ble_eq_true rfl)
  have g := sw_ok_ext g hx1
  refine SW.putR (pc := 56) g hname (dt dt_X10_init 26 rfl) fl_X10_33 rfl (sw_tyR cl_10 (Nat.le_of_ble_eq_true rfl) (fun _ => ⟨rfl, rfl⟩)) rfl (Nat.le_of_ble_eq_true rfl) ?_
  refine SW.aload_n (pc := 59) g (dt dt_X10_init 27 rfl) rfl ?_
  refine SW.new (pc := 60) (n := 29) (sls := [none, some none, some none]) g (dt dt_X10_init 28 rfl) cl_1 (gtb_of (tbm_1 (List.mem_of_getElem? (i := 188) rfl)) rfl) (gtb_of (tbm_1 (List.mem_of_getElem? (i := 189) rfl)) rfl) (gtb_of (tbm_1 (List.mem_of_getElem? (i := 6) rfl)) rfl) df_1 rfl rfl (Nat.le_of_ble_eq_true rfl) rfl rfl rfl (Nat.le_of_ble_eq_true rfl) (Nat.le_of_ble_eq_true rfl) (fun ad1 hx1 => ?_)
  have hx := sw_ext_trans hx hx1 (Nat.le_of_ble_eq_true rfl)
  have g := sw_ok_ext g hx1
  refine SW.genM h (fun μ11 h => ?_)
  refine SW.dup (pc := 63) g (dt dt_X10_init 29 rfl) rfl ?_
  obtain ⟨r12, h12, h⟩ := bindI h
  refine SW.callI (pc := 64) (n := 30) g (dt dt_X10_init 30 rfl) (mtc_f_book_init _ _ _ _ _ ν N μ11 r12 h12) me_X1_init mi_X1_init rfl (Or.inr ⟨_, mn_X10_38⟩) rfl (Nat.le_of_ble_eq_true rfl) (Nat.le_of_ble_eq_true rfl) (Nat.le_of_ble_eq_true rfl) (Nat.le_of_ble_eq_true rfl) rfl rfl rfl (fun ad1 hx1 => ?_)
  have hx := sw_ext_trans hx hx1 (Nat.le_of_ble_eq_true rfl)
  have g := sw_ok_ext g hx1
  refine SW.putR (pc := 67) g hname (dt dt_X10_init 31 rfl) fl_X10_39 rfl (sw_tyR cl_10 (Nat.le_of_ble_eq_true rfl) (fun _ => ⟨rfl, rfl⟩)) rfl (Nat.le_of_ble_eq_true rfl) ?_
  refine SW.aload_n (pc := 70) g (dt dt_X10_init 32 rfl) rfl ?_
  refine SW.new (pc := 71) (n := 32) (sls := [none, some none, some none]) g (dt dt_X10_init 33 rfl) cl_1 (gtb_of (tbm_1 (List.mem_of_getElem? (i := 188) rfl)) rfl) (gtb_of (tbm_1 (List.mem_of_getElem? (i := 189) rfl)) rfl) (gtb_of (tbm_1 (List.mem_of_getElem? (i := 6) rfl)) rfl) df_1 rfl rfl (Nat.le_of_ble_eq_true rfl) rfl rfl rfl (Nat.le_of_ble_eq_true rfl) (Nat.le_of_ble_eq_true rfl) (fun ad1 hx1 => ?_)
  have hx := sw_ext_trans hx hx1 (Nat.le_of_ble_eq_true rfl)
  have g := sw_ok_ext g hx1
  refine SW.genM h (fun μ13 h => ?_)
  refine SW.dup (pc := 74) g (dt dt_X10_init 34 rfl) rfl ?_
  obtain ⟨r14, h14, h⟩ := bindI h
  refine SW.callI (pc := 75) (n := 33) g (dt dt_X10_init 35 rfl) (mtc_f_bookR_init _ _ _ _ _ ν N μ13 r14 h14) me_X1_init mi_X1_init rfl (Or.inr ⟨_, mn_X10_38⟩) rfl (Nat.le_of_ble_eq_true rfl) (Nat.le_of_ble_eq_true rfl) (Nat.le_of_ble_eq_true rfl) (Nat.le_of_ble_eq_true rfl) rfl rfl rfl (fun ad1 hx1 => ?_)
  have hx := sw_ext_trans hx hx1 (Nat.le_of_ble_eq_true rfl)
  have g := sw_ok_ext g hx1
  refine SW.putR (pc := 78) g hname (dt dt_X10_init 36 rfl) fl_X10_43 rfl (sw_tyR cl_10 (Nat.le_of_ble_eq_true rfl) (fun _ => ⟨rfl, rfl⟩)) rfl (Nat.le_of_ble_eq_true rfl) ?_
  refine SW.aload_n (pc := 81) g (dt dt_X10_init 37 rfl) rfl ?_
  refine SW.new (pc := 82) (n := 35) (sls := [some none, some none, none, none, none, none, some none, some none, some none, some none, some none]) g (dt dt_X10_init 38 rfl) cl_2 (gtb_of (tbm_1 (List.mem_of_getElem? (i := 208) rfl)) rfl) (gtb_of (tbm_1 (List.mem_of_getElem? (i := 209) rfl)) rfl) (gtb_of (tbm_1 (List.mem_of_getElem? (i := 7) rfl)) rfl) df_2 rfl rfl (Nat.le_of_ble_eq_true rfl) rfl rfl rfl (Nat.le_of_ble_eq_true rfl) (Nat.le_of_ble_eq_true rfl) (fun ad1 hx1 => ?_)
  have hx := sw_ext_trans hx hx1 (Nat.le_of_ble_eq_true rfl)
  have g := sw_ok_ext g hx1
  refine SW.genM h (fun μ15 h => ?_)
  refine SW.dup (pc := 85) g (dt dt_X10_init 39 rfl) rfl ?_
  refine SW.aload_n (pc := 86) g (dt dt_X10_init 40 rfl) rfl ?_
  refine SW.getR (pc := 87) g (dt dt_X10_init 41 rfl) fl_X10_19 rfl rfl ?_
  refine SW.aload_n (pc := 90) g (dt dt_X10_init 42 rfl) rfl ?_
  refine SW.getR (pc := 91) g (dt dt_X10_init 43 rfl) fl_X10_29 rfl rfl ?_
  obtain ⟨r16, h16, h⟩ := bindI h
  refine SW.callI (pc := 94) (n := 36) g (dt dt_X10_init 44 rfl) (mtc_f_days_init _ _ _ _ _ ν N μ15 r16 h16) me_X2_init mi_X2_init rfl (Or.inl ml_X10_48) rfl (Nat.le_of_ble_eq_true rfl) (Nat.le_of_ble_eq_true rfl) (Nat.le_of_ble_eq_true rfl) (Nat.le_of_ble_eq_true rfl) rfl rfl rfl (fun ad1 hx1 => ?_)
  have hx := sw_ext_trans hx hx1 (Nat.le_of_ble_eq_true rfl)
  have g := sw_ok_ext g hx1
  refine SW.putR (pc := 97) g hname (dt dt_X10_init 45 rfl) fl_X10_51 rfl (sw_tyR cl_10 (Nat.le_of_ble_eq_true rfl) (fun _ => ⟨rfl, rfl⟩)) rfl (Nat.le_of_ble_eq_true rfl) ?_
  refine SW.aload_n (pc := 100) g (dt dt_X10_init 46 rfl) rfl ?_
  refine SW.new (pc := 101) (n := 41) (sls := [some none, some none, some none, some none, some none, none, none, none, none]) g (dt dt_X10_init 47 rfl) cl_9 (gtb_of (tbm_2 (List.mem_of_getElem? (i := 34) rfl)) rfl) (gtb_of (tbm_2 (List.mem_of_getElem? (i := 35) rfl)) rfl) (gtb_of (tbm_1 (List.mem_of_getElem? (i := 9) rfl)) rfl) df_9 rfl rfl (Nat.le_of_ble_eq_true rfl) rfl rfl rfl (Nat.le_of_ble_eq_true rfl) (Nat.le_of_ble_eq_true rfl) (fun ad1 hx1 => ?_)
  have hx := sw_ext_trans hx hx1 (Nat.le_of_ble_eq_true rfl)
  have g := sw_ok_ext g hx1
  refine SW.genM h (fun μ17 h => ?_)
  refine SW.dup (pc := 104) g (dt dt_X10_init 48 rfl) rfl ?_
  refine SW.aload_n (pc := 105) g (dt dt_X10_init 49 rfl) rfl ?_
  refine SW.getR (pc := 106) g (dt dt_X10_init 50 rfl) fl_X10_51 rfl rfl ?_
  obtain ⟨r18, h18, h⟩ := bindI h
  refine SW.callI (pc := 109) (n := 42) g (dt dt_X10_init 51 rfl) (mtc_f_work_init _ _ _ _ _ ν N μ17 r18 h18) me_X9_init mi_X9_init rfl (Or.inl ml_X10_57) rfl (Nat.le_of_ble_eq_true rfl) (Nat.le_of_ble_eq_true rfl) (Nat.le_of_ble_eq_true rfl) (Nat.le_of_ble_eq_true rfl) rfl rfl rfl (fun ad1 hx1 => ?_)
  have hx := sw_ext_trans hx hx1 (Nat.le_of_ble_eq_true rfl)
  have g := sw_ok_ext g hx1
  refine SW.putR (pc := 112) g hname (dt dt_X10_init 52 rfl) fl_X10_60 rfl (sw_tyR cl_10 (Nat.le_of_ble_eq_true rfl) (fun _ => ⟨rfl, rfl⟩)) rfl (Nat.le_of_ble_eq_true rfl) ?_
  refine SW.aload_n (pc := 115) g (dt dt_X10_init 53 rfl) rfl ?_
  refine SW.new (pc := 116) (n := 45) (sls := [some none, some none, some none, some none, none, none]) g (dt dt_X10_init 54 rfl) cl_6 (gtb_of (tbm_2 (List.mem_of_getElem? (i := 70) rfl)) rfl) (gtb_of (tbm_2 (List.mem_of_getElem? (i := 71) rfl)) rfl) (gtb_of (tbm_1 (List.mem_of_getElem? (i := 10) rfl)) rfl) df_6 rfl rfl (Nat.le_of_ble_eq_true rfl) rfl rfl rfl (Nat.le_of_ble_eq_true rfl) (Nat.le_of_ble_eq_true rfl) (fun ad1 hx1 => ?_)
  have hx := sw_ext_trans hx hx1 (Nat.le_of_ble_eq_true rfl)
  have g := sw_ok_ext g hx1
  refine SW.genM h (fun μ19 h => ?_)
  refine SW.dup (pc := 119) g (dt dt_X10_init 55 rfl) rfl ?_
  refine SW.aload_n (pc := 120) g (dt dt_X10_init 56 rfl) rfl ?_
  refine SW.getR (pc := 121) g (dt dt_X10_init 57 rfl) fl_X10_51 rfl rfl ?_
  obtain ⟨r20, h20, h⟩ := bindI h
  refine SW.callI (pc := 124) (n := 46) g (dt dt_X10_init 58 rfl) (mtc_f_shelf_init _ _ _ _ _ ν N μ19 r20 h20) me_X6_init mi_X6_init rfl (Or.inl ml_X10_66) rfl (Nat.le_of_ble_eq_true rfl) (Nat.le_of_ble_eq_true rfl) (Nat.le_of_ble_eq_true rfl) (Nat.le_of_ble_eq_true rfl) rfl rfl rfl (fun ad1 hx1 => ?_)
  have hx := sw_ext_trans hx hx1 (Nat.le_of_ble_eq_true rfl)
  have g := sw_ok_ext g hx1
  refine SW.putR (pc := 127) g hname (dt dt_X10_init 59 rfl) fl_X10_67 rfl (sw_tyR cl_10 (Nat.le_of_ble_eq_true rfl) (fun _ => ⟨rfl, rfl⟩)) rfl (Nat.le_of_ble_eq_true rfl) ?_
  refine SW.aload_n (pc := 130) g (dt dt_X10_init 60 rfl) rfl ?_
  refine SW.new (pc := 131) (n := 49) (sls := [some none, some none, some none]) g (dt dt_X10_init 61 rfl) cl_8 (gtb_of (tbm_2 (List.mem_of_getElem? (i := 97) rfl)) rfl) (gtb_of (tbm_2 (List.mem_of_getElem? (i := 98) rfl)) rfl) (gtb_of (tbm_1 (List.mem_of_getElem? (i := 11) rfl)) rfl) df_8 rfl rfl (Nat.le_of_ble_eq_true rfl) rfl rfl rfl (Nat.le_of_ble_eq_true rfl) (Nat.le_of_ble_eq_true rfl) (fun ad1 hx1 => ?_)
  have hx := sw_ext_trans hx hx1 (Nat.le_of_ble_eq_true rfl)
  have g := sw_ok_ext g hx1
  refine SW.genM h (fun μ21 h => ?_)
  refine SW.dup (pc := 134) g (dt dt_X10_init 62 rfl) rfl ?_
  refine SW.aload_n (pc := 135) g (dt dt_X10_init 63 rfl) rfl ?_
  refine SW.getR (pc := 136) g (dt dt_X10_init 64 rfl) fl_X10_51 rfl rfl ?_
  obtain ⟨r22, h22, h⟩ := bindI h
  refine SW.callI (pc := 139) (n := 50) g (dt dt_X10_init 65 rfl) (mtc_f_ways_init _ _ _ _ _ ν N μ21 r22 h22) me_X8_init mi_X8_init rfl (Or.inl ml_X10_73) rfl (Nat.le_of_ble_eq_true rfl) (Nat.le_of_ble_eq_true rfl) (Nat.le_of_ble_eq_true rfl) (Nat.le_of_ble_eq_true rfl) rfl rfl rfl (fun ad1 hx1 => ?_)
  have hx := sw_ext_trans hx hx1 (Nat.le_of_ble_eq_true rfl)
  have g := sw_ok_ext g hx1
  refine SW.putR (pc := 142) g hname (dt dt_X10_init 66 rfl) fl_X10_74 rfl (sw_tyR cl_10 (Nat.le_of_ble_eq_true rfl) (fun _ => ⟨rfl, rfl⟩)) rfl (Nat.le_of_ble_eq_true rfl) ?_
  refine SW.aload_n (pc := 145) g (dt dt_X10_init 67 rfl) rfl ?_
  refine SW.new (pc := 146) (n := 51) (sls := [some none, some none, some none, some none, some none, none, none, none]) g (dt dt_X10_init 68 rfl) cl_3 (gtb_of (tbm_2 (List.mem_of_getElem? (i := 113) rfl)) rfl) (gtb_of (tbm_2 (List.mem_of_getElem? (i := 114) rfl)) rfl) (gtb_of (tbm_1 (List.mem_of_getElem? (i := 12) rfl)) rfl) df_3 rfl rfl (Nat.le_of_ble_eq_true rfl) rfl rfl rfl (Nat.le_of_ble_eq_true rfl) (Nat.le_of_ble_eq_true rfl) (fun ad1 hx1 => ?_)
  have hx := sw_ext_trans hx hx1 (Nat.le_of_ble_eq_true rfl)
  have g := sw_ok_ext g hx1
  refine SW.genM h (fun μ23 h => ?_)
  refine SW.dup (pc := 149) g (dt dt_X10_init 69 rfl) rfl ?_
  refine SW.aload_n (pc := 150) g (dt dt_X10_init 70 rfl) rfl ?_
  refine SW.getR (pc := 151) g (dt dt_X10_init 71 rfl) fl_X10_51 rfl rfl ?_
  refine SW.aload_n (pc := 154) g (dt dt_X10_init 72 rfl) rfl ?_
  refine SW.getR (pc := 155) g (dt dt_X10_init 73 rfl) fl_X10_39 rfl rfl ?_
  obtain ⟨r24, h24, h⟩ := bindI h
  refine SW.callI (pc := 158) (n := 52) g (dt dt_X10_init 74 rfl) (mtc_f_guess_init _ _ _ _ _ ν N μ23 r24 h24) me_X3_init mi_X3_init rfl (Or.inl ml_X10_80) rfl (Nat.le_of_ble_eq_true rfl) (Nat.le_of_ble_eq_true rfl) (Nat.le_of_ble_eq_true rfl) (Nat.le_of_ble_eq_true rfl) rfl rfl rfl (fun ad1 hx1 => ?_)
  have hx := sw_ext_trans hx hx1 (Nat.le_of_ble_eq_true rfl)
  have g := sw_ok_ext g hx1
  refine SW.putR (pc := 161) g hname (dt dt_X10_init 75 rfl) fl_X10_83 rfl (sw_tyR cl_10 (Nat.le_of_ble_eq_true rfl) (fun _ => ⟨rfl, rfl⟩)) rfl (Nat.le_of_ble_eq_true rfl) ?_
  refine SW.aload_n (pc := 164) g (dt dt_X10_init 76 rfl) rfl ?_
  refine SW.new (pc := 165) (n := 55) (sls := [some none, some none, some none, none]) g (dt dt_X10_init 77 rfl) cl_0 (gtb_of (tbm_2 (List.mem_of_getElem? (i := 147) rfl)) rfl) (gtb_of (tbm_2 (List.mem_of_getElem? (i := 148) rfl)) rfl) (gtb_of (tbm_1 (List.mem_of_getElem? (i := 13) rfl)) rfl) df_0 rfl rfl (Nat.le_of_ble_eq_true rfl) rfl rfl rfl (Nat.le_of_ble_eq_true rfl) (Nat.le_of_ble_eq_true rfl) (fun ad1 hx1 => ?_)
  have hx := sw_ext_trans hx hx1 (Nat.le_of_ble_eq_true rfl)
  have g := sw_ok_ext g hx1
  refine SW.genM h (fun μ25 h => ?_)
  refine SW.dup (pc := 168) g (dt dt_X10_init 78 rfl) rfl ?_
  refine SW.aload_n (pc := 169) g (dt dt_X10_init 79 rfl) rfl ?_
  refine SW.getR (pc := 170) g (dt dt_X10_init 80 rfl) fl_X10_51 rfl rfl ?_
  obtain ⟨r26, h26, h⟩ := bindI h
  refine SW.callI (pc := 173) (n := 56) g (dt dt_X10_init 81 rfl) (mtc_f_autm_init _ _ _ _ _ ν N μ25 r26 h26) me_X0_init mi_X0_init rfl (Or.inl ml_X10_89) rfl (Nat.le_of_ble_eq_true rfl) (Nat.le_of_ble_eq_true rfl) (Nat.le_of_ble_eq_true rfl) (Nat.le_of_ble_eq_true rfl) rfl rfl rfl (fun ad1 hx1 => ?_)
  have hx := sw_ext_trans hx hx1 (Nat.le_of_ble_eq_true rfl)
  have g := sw_ok_ext g hx1
  refine SW.putR (pc := 176) g hname (dt dt_X10_init 82 rfl) fl_X10_90 rfl (sw_tyR cl_10 (Nat.le_of_ble_eq_true rfl) (fun _ => ⟨rfl, rfl⟩)) rfl (Nat.le_of_ble_eq_true rfl) ?_
  exact SW.vreturn (pc := 179) g (leafV h ho) hx (Nat.le_of_ble_eq_true rfl) (Nat.le_of_ble_eq_true rfl) (dt dt_X10_init 83 rfl)

def f_m_init (N : Nat) (μ : sw_M) : Option sw_M :=
  wb (wrR μ 64 (fun _ => 0)) (fun μ1 =>
  wb (wr μ1 63 8 (-1)) (fun μ2 =>
  wb (wrR μ2 65 (fun _ => 0)) (fun μ3 =>
  wb (wrR μ3 66 (fun _ => 0)) (fun μ4 =>
  wb (wrR μ4 67 (fun _ => 0)) (fun μ5 =>
  wb (wrR μ5 68 (fun _ => 0)) (fun μ6 =>
  wb (wrR μ6 69 (fun _ => 0)) (fun μ7 =>
  wb (wrR μ7 70 (fun _ => 0)) (fun μ8 =>
  wb (wrR μ8 71 (fun _ => 0)) (fun μ9 =>
  wb (wrR μ9 72 (fun _ => 0)) (fun μ10 =>
  wb (wrR μ10 73 (fun _ => 0)) (fun μ11 =>
  wb (wrR μ11 74 (fun _ => 0)) (fun μ12 =>
  wb (wrR μ12 75 (fun _ => 0)) (fun μ13 =>
  wb (wrR μ13 76 (fun _ => 0)) (fun μ14 =>
  wb (wrR μ14 77 (fun _ => 0)) (fun μ15 =>
  wb (wrR μ15 78 (fun _ => 0)) (fun μ16 =>
  wb (wrR μ16 79 (fun _ => 0)) (fun μ17 =>
  wb (wrR μ17 80 (fun _ => 0)) (fun μ18 =>
  wb (wrR μ18 81 (fun _ => 0)) (fun μ19 =>
  wb (wrR μ19 82 (fun _ => 0)) (fun μ20 =>
  wb (wrR μ20 83 (fun _ => 0)) (fun μ21 =>
  wb (wrR μ21 84 (fun _ => 0)) (fun μ22 =>
  wb (wrR μ22 85 (fun _ => 0)) (fun μ23 =>
  wb (wrR μ23 86 (fun _ => 0)) (fun μ24 =>
  Option.bind (f_m_clears_ly31 N μ24) (fun r25 =>
  Option.bind (f_m_sets_ly31 N r25) (fun r26 =>
  some r26))))))))))))))))))))))))))
set_option maxRecDepth 100000 in
set_option maxHeartbeats 8000000 in
theorem mtc_f_m_init (l : Launch) (D : va_G) (cI cL : ClassId) (ad : Nat → Nat) (ν : sw_N) (N : Nat) (μ : sw_M) (o : sw_M) (h : f_m_init N μ = some o) : MetR l D cI cL yX11_init cX11_init 1 none 3 23 5774 (sw_ext 64 ad) ad [.ref 63] ly30 μ ν none ly31 o ν := by
  refine MetR.ofI (n := 0) rfl (Nat.le_of_ble_eq_true rfl) (fun G g ho hm hname => ?_)
  have hx : sw_ext 64 ad ad := sw_ext_rf
  unfold f_m_init at h
  refine SW.aload_n (pc := 0) g (dt dt_X11_init 0 rfl) rfl ?_
  refine SW.objInit (pc := 1) g (dt dt_X11_init 1 rfl) (gtb_of (tbm_6 (List.mem_of_getElem? (i := 229) rfl)) rfl) oi_i oi_c (Nat.le_of_ble_eq_true rfl) (Nat.le_of_ble_eq_true rfl) ?_
  refine SW.aload_n (pc := 4) g (dt dt_X11_init 2 rfl) rfl ?_
  refine SW.iconst (pc := 5) (v := 2) g (dt dt_X11_init 3 rfl) ki_2 ?_
  refine SW.newa (pc := 6) (n := 64) (N := 2) g (dt dt_X11_init 4 rfl) (gtb_of (tbm_1 (List.mem_of_getElem? (i := 76) rfl)) rfl) (by decide) (by decide) (Nat.le_of_ble_eq_true rfl) rfl (Nat.le_of_ble_eq_true rfl) rfl rfl rfl (Nat.le_of_ble_eq_true rfl) (Nat.le_of_ble_eq_true rfl) (fun ad1 hx1 => ?_)
  have hx := sw_ext_trans hx hx1 (Nat.le_of_ble_eq_true rfl)
  have g := sw_ok_ext g hx1
  refine SW.genM h (fun μ1 h => ?_)
  refine SW.putR (pc := 8) g hname (dt dt_X11_init 5 rfl) fl_X11_7 rfl (sw_tyR cl_11 (Nat.le_of_ble_eq_true rfl) (fun _ => ⟨rfl, rfl⟩)) rfl (Nat.le_of_ble_eq_true rfl) ?_
  refine SW.aload_n (pc := 11) g (dt dt_X11_init 6 rfl) rfl ?_
  refine SW.iconst (pc := 12) (v := (-1)) g (dt dt_X11_init 7 rfl) ki_m1 ?_
  refine SW.putI (pc := 13) g (dt dt_X11_init 8 rfl) fl_X11_17 rfl rfl ?_
  refine SW.genM h (fun μ2 h => ?_)
  refine SW.aload_n (pc := 16) g (dt dt_X11_init 9 rfl) rfl ?_
  refine SW.sipush (pc := 17) (v := 600) g (dt dt_X11_init 10 rfl) ks_600 ?_
  refine SW.newa (pc := 20) (n := 65) (N := 600) g (dt dt_X11_init 11 rfl) (gtb_of (tbm_1 (List.mem_of_getElem? (i := 76) rfl)) rfl) (by decide) (by decide) (Nat.le_of_ble_eq_true rfl) rfl (Nat.le_of_ble_eq_true rfl) rfl rfl rfl (Nat.le_of_ble_eq_true rfl) (Nat.le_of_ble_eq_true rfl) (fun ad1 hx1 => ?_)
  have hx := sw_ext_trans hx hx1 (Nat.le_of_ble_eq_true rfl)
  have g := sw_ok_ext g hx1
  refine SW.genM h (fun μ3 h => ?_)
  refine SW.putR (pc := 22) g hname (dt dt_X11_init 12 rfl) fl_X11_20 rfl (sw_tyR cl_11 (Nat.le_of_ble_eq_true rfl) (fun _ => ⟨rfl, rfl⟩)) rfl (Nat.le_of_ble_eq_true rfl) ?_
  refine SW.aload_n (pc := 25) g (dt dt_X11_init 13 rfl) rfl ?_
  refine SW.bipush (pc := 26) (v := 36) g (dt dt_X11_init 14 rfl) kb_36 ?_
  refine SW.newa (pc := 28) (n := 66) (N := 36) g (dt dt_X11_init 15 rfl) (gtb_of (tbm_1 (List.mem_of_getElem? (i := 76) rfl)) rfl) (by decide) (by decide) (Nat.le_of_ble_eq_true rfl) rfl (Nat.le_of_ble_eq_true rfl) rfl rfl rfl (Nat.le_of_ble_eq_true rfl) (Nat.le_of_ble_eq_true rfl) (fun ad1 hx1 => ?_)
  have hx := sw_ext_trans hx hx1 (Nat.le_of_ble_eq_true rfl)
  have g := sw_ok_ext g hx1
  refine SW.genM h (fun μ4 h => ?_)
  refine SW.putR (pc := 30) g hname (dt dt_X11_init 16 rfl) fl_X11_23 rfl (sw_tyR cl_11 (Nat.le_of_ble_eq_true rfl) (fun _ => ⟨rfl, rfl⟩)) rfl (Nat.le_of_ble_eq_true rfl) ?_
  refine SW.aload_n (pc := 33) g (dt dt_X11_init 17 rfl) rfl ?_
  refine SW.bipush (pc := 34) (v := 12) g (dt dt_X11_init 18 rfl) kb_12 ?_
  refine SW.newa (pc := 36) (n := 67) (N := 12) g (dt dt_X11_init 19 rfl) (gtb_of (tbm_1 (List.mem_of_getElem? (i := 76) rfl)) rfl) (by decide) (by decide) (Nat.le_of_ble_eq_true rfl) rfl (Nat.le_of_ble_eq_true rfl) rfl rfl rfl (Nat.le_of_ble_eq_true rfl) (Nat.le_of_ble_eq_true rfl) (fun ad1 hx1 => ?_)
  have hx := sw_ext_trans hx hx1 (Nat.le_of_ble_eq_true rfl)
  have g := sw_ok_ext g hx1
  refine SW.genM h (fun μ5 h => ?_)
  refine SW.putR (pc := 38) g hname (dt dt_X11_init 20 rfl) fl_X11_26 rfl (sw_tyR cl_11 (Nat.le_of_ble_eq_true rfl) (fun _ => ⟨rfl, rfl⟩)) rfl (Nat.le_of_ble_eq_true rfl) ?_
  refine SW.aload_n (pc := 41) g (dt dt_X11_init 21 rfl) rfl ?_
  refine SW.bipush (pc := 42) (v := 10) g (dt dt_X11_init 22 rfl) kb_10 ?_
  refine SW.newa (pc := 44) (n := 68) (N := 10) g (dt dt_X11_init 23 rfl) (gtb_of (tbm_1 (List.mem_of_getElem? (i := 76) rfl)) rfl) (by decide) (by decide) (Nat.le_of_ble_eq_true rfl) rfl (Nat.le_of_ble_eq_true rfl) rfl rfl rfl (Nat.le_of_ble_eq_true rfl) (Nat.le_of_ble_eq_true rfl) (fun ad1 hx1 => ?_)
  have hx := sw_ext_trans hx hx1 (Nat.le_of_ble_eq_true rfl)
  have g := sw_ok_ext g hx1
  refine SW.genM h (fun μ6 h => ?_)
  refine SW.putR (pc := 46) g hname (dt dt_X11_init 24 rfl) fl_X11_29 rfl (sw_tyR cl_11 (Nat.le_of_ble_eq_true rfl) (fun _ => ⟨rfl, rfl⟩)) rfl (Nat.le_of_ble_eq_true rfl) ?_
  refine SW.aload_n (pc := 49) g (dt dt_X11_init 25 rfl) rfl ?_
  refine SW.bipush (pc := 50) (v := 36) g (dt dt_X11_init 26 rfl) kb_36 ?_
  refine SW.newa (pc := 52) (n := 69) (N := 36) g (dt dt_X11_init 27 rfl) (gtb_of (tbm_1 (List.mem_of_getElem? (i := 76) rfl)) rfl) (by decide) (by decide) (Nat.le_of_ble_eq_true rfl) rfl (Nat.le_of_ble_eq_true rfl) rfl rfl rfl (Nat.le_of_ble_eq_true rfl) (Nat.le_of_ble_eq_true rfl) (fun ad1 hx1 => ?_)
  have hx := sw_ext_trans hx hx1 (Nat.le_of_ble_eq_true rfl)
  have g := sw_ok_ext g hx1
  refine SW.genM h (fun μ7 h => ?_)
  refine SW.putR (pc := 54) g hname (dt dt_X11_init 28 rfl) fl_X11_32 rfl (sw_tyR cl_11 (Nat.le_of_ble_eq_true rfl) (fun _ => ⟨rfl, rfl⟩)) rfl (Nat.le_of_ble_eq_true rfl) ?_
  refine SW.aload_n (pc := 57) g (dt dt_X11_init 29 rfl) rfl ?_
  refine SW.bipush (pc := 58) (v := 12) g (dt dt_X11_init 30 rfl) kb_12 ?_
  refine SW.newa (pc := 60) (n := 70) (N := 12) g (dt dt_X11_init 31 rfl) (gtb_of (tbm_1 (List.mem_of_getElem? (i := 76) rfl)) rfl) (by decide) (by decide) (Nat.le_of_ble_eq_true rfl) rfl (Nat.le_of_ble_eq_true rfl) rfl rfl rfl (Nat.le_of_ble_eq_true rfl) (Nat.le_of_ble_eq_true rfl) (fun ad1 hx1 => ?_)
  have hx := sw_ext_trans hx hx1 (Nat.le_of_ble_eq_true rfl)
  have g := sw_ok_ext g hx1
  refine SW.genM h (fun μ8 h => ?_)
  refine SW.putR (pc := 62) g hname (dt dt_X11_init 32 rfl) fl_X11_35 rfl (sw_tyR cl_11 (Nat.le_of_ble_eq_true rfl) (fun _ => ⟨rfl, rfl⟩)) rfl (Nat.le_of_ble_eq_true rfl) ?_
  refine SW.aload_n (pc := 65) g (dt dt_X11_init 33 rfl) rfl ?_
  refine SW.bipush (pc := 66) (v := 10) g (dt dt_X11_init 34 rfl) kb_10 ?_
  refine SW.newa (pc := 68) (n := 71) (N := 10) g (dt dt_X11_init 35 rfl) (gtb_of (tbm_1 (List.mem_of_getElem? (i := 76) rfl)) rfl) (by decide) (by decide) (Nat.le_of_ble_eq_true rfl) rfl (Nat.le_of_ble_eq_true rfl) rfl rfl rfl (Nat.le_of_ble_eq_true rfl) (Nat.le_of_ble_eq_true rfl) (fun ad1 hx1 => ?_)
  have hx := sw_ext_trans hx hx1 (Nat.le_of_ble_eq_true rfl)
  have g := sw_ok_ext g hx1
  refine SW.genM h (fun μ9 h => ?_)
  refine SW.putR (pc := 70) g hname (dt dt_X11_init 36 rfl) fl_X11_38 rfl (sw_tyR cl_11 (Nat.le_of_ble_eq_true rfl) (fun _ => ⟨rfl, rfl⟩)) rfl (Nat.le_of_ble_eq_true rfl) ?_
  refine SW.aload_n (pc := 73) g (dt dt_X11_init 37 rfl) rfl ?_
  refine SW.sipush (pc := 74) (v := 150) g (dt dt_X11_init 38 rfl) ks_150 ?_
  refine SW.newa (pc := 77) (n := 72) (N := 150) g (dt dt_X11_init 39 rfl) (gtb_of (tbm_1 (List.mem_of_getElem? (i := 76) rfl)) rfl) (by decide) (by decide) (Nat.le_of_ble_eq_true rfl) rfl (Nat.le_of_ble_eq_true rfl) rfl rfl rfl (Nat.le_of_ble_eq_true rfl) (Nat.le_of_ble_eq_true rfl) (fun ad1 hx1 => ?_)
  have hx := sw_ext_trans hx hx1 (Nat.le_of_ble_eq_true rfl)
  have g := sw_ok_ext g hx1
  refine SW.genM h (fun μ10 h => ?_)
  refine SW.putR (pc := 79) g hname (dt dt_X11_init 40 rfl) fl_X11_41 rfl (sw_tyR cl_11 (Nat.le_of_ble_eq_true rfl) (fun _ => ⟨rfl, rfl⟩)) rfl (Nat.le_of_ble_eq_true rfl) ?_
  refine SW.aload_n (pc := 82) g (dt dt_X11_init 41 rfl) rfl ?_
  refine SW.sipush (pc := 83) (v := 150) g (dt dt_X11_init 42 rfl) ks_150 ?_
  refine SW.newa (pc := 86) (n := 73) (N := 150) g (dt dt_X11_init 43 rfl) (gtb_of (tbm_1 (List.mem_of_getElem? (i := 76) rfl)) rfl) (by decide) (by decide) (Nat.le_of_ble_eq_true rfl) rfl (Nat.le_of_ble_eq_true rfl) rfl rfl rfl (Nat.le_of_ble_eq_true rfl) (Nat.le_of_ble_eq_true rfl) (fun ad1 hx1 => ?_)
  have hx := sw_ext_trans hx hx1 (Nat.le_of_ble_eq_true rfl)
  have g := sw_ok_ext g hx1
  refine SW.genM h (fun μ11 h => ?_)
  refine SW.putR (pc := 88) g hname (dt dt_X11_init 44 rfl) fl_X11_44 rfl (sw_tyR cl_11 (Nat.le_of_ble_eq_true rfl) (fun _ => ⟨rfl, rfl⟩)) rfl (Nat.le_of_ble_eq_true rfl) ?_
  refine SW.aload_n (pc := 91) g (dt dt_X11_init 45 rfl) rfl ?_
  refine SW.sipush (pc := 92) (v := 150) g (dt dt_X11_init 46 rfl) ks_150 ?_
  refine SW.newa (pc := 95) (n := 74) (N := 150) g (dt dt_X11_init 47 rfl) (gtb_of (tbm_1 (List.mem_of_getElem? (i := 76) rfl)) rfl) (by decide) (by decide) (Nat.le_of_ble_eq_true rfl) rfl (Nat.le_of_ble_eq_true rfl) rfl rfl rfl (Nat.le_of_ble_eq_true rfl) (Nat.le_of_ble_eq_true rfl) (fun ad1 hx1 => ?_)
  have hx := sw_ext_trans hx hx1 (Nat.le_of_ble_eq_true rfl)
  have g := sw_ok_ext g hx1
  refine SW.genM h (fun μ12 h => ?_)
  refine SW.putR (pc := 97) g hname (dt dt_X11_init 48 rfl) fl_X11_47 rfl (sw_tyR cl_11 (Nat.le_of_ble_eq_true rfl) (fun _ => ⟨rfl, rfl⟩)) rfl (Nat.le_of_ble_eq_true rfl) ?_
  refine SW.aload_n (pc := 100) g (dt dt_X11_init 49 rfl) rfl ?_
  refine SW.sipush (pc := 101) (v := 150) g (dt dt_X11_init 50 rfl) ks_150 ?_
  refine SW.newa (pc := 104) (n := 75) (N := 150) g (dt dt_X11_init 51 rfl) (gtb_of (tbm_1 (List.mem_of_getElem? (i := 76) rfl)) rfl) (by decide) (by decide) (Nat.le_of_ble_eq_true rfl) rfl (Nat.le_of_ble_eq_true rfl) rfl rfl rfl (Nat.le_of_ble_eq_true rfl) (Nat.le_of_ble_eq_true rfl) (fun ad1 hx1 => ?_)
  have hx := sw_ext_trans hx hx1 (Nat.le_of_ble_eq_true rfl)
  have g := sw_ok_ext g hx1
  refine SW.genM h (fun μ13 h => ?_)
  refine SW.putR (pc := 106) g hname (dt dt_X11_init 52 rfl) fl_X11_50 rfl (sw_tyR cl_11 (Nat.le_of_ble_eq_true rfl) (fun _ => ⟨rfl, rfl⟩)) rfl (Nat.le_of_ble_eq_true rfl) ?_
  refine SW.aload_n (pc := 109) g (dt dt_X11_init 53 rfl) rfl ?_
  refine SW.sipush (pc := 110) (v := 150) g (dt dt_X11_init 54 rfl) ks_150 ?_
  refine SW.newa (pc := 113) (n := 76) (N := 150) g (dt dt_X11_init 55 rfl) (gtb_of (tbm_1 (List.mem_of_getElem? (i := 76) rfl)) rfl) (by decide) (by decide) (Nat.le_of_ble_eq_true rfl) rfl (Nat.le_of_ble_eq_true rfl) rfl rfl rfl (Nat.le_of_ble_eq_true rfl) (Nat.le_of_ble_eq_true rfl) (fun ad1 hx1 => ?_)
  have hx := sw_ext_trans hx hx1 (Nat.le_of_ble_eq_true rfl)
  have g := sw_ok_ext g hx1
  refine SW.genM h (fun μ14 h => ?_)
  refine SW.putR (pc := 115) g hname (dt dt_X11_init 56 rfl) fl_X11_53 rfl (sw_tyR cl_11 (Nat.le_of_ble_eq_true rfl) (fun _ => ⟨rfl, rfl⟩)) rfl (Nat.le_of_ble_eq_true rfl) ?_
  refine SW.aload_n (pc := 118) g (dt dt_X11_init 57 rfl) rfl ?_
  refine SW.bipush (pc := 119) (v := 7) g (dt dt_X11_init 58 rfl) kb_7 ?_
  refine SW.newa (pc := 121) (n := 77) (N := 7) g (dt dt_X11_init 59 rfl) (gtb_of (tbm_1 (List.mem_of_getElem? (i := 76) rfl)) rfl) (by decide) (by decide) (Nat.le_of_ble_eq_true rfl) rfl (Nat.le_of_ble_eq_true rfl) rfl rfl rfl (Nat.le_of_ble_eq_true rfl) (Nat.le_of_ble_eq_true rfl) (fun ad1 hx1 => ?_)
  have hx := sw_ext_trans hx hx1 (Nat.le_of_ble_eq_true rfl)
  have g := sw_ok_ext g hx1
  refine SW.genM h (fun μ15 h => ?_)
  refine SW.putR (pc := 123) g hname (dt dt_X11_init 60 rfl) fl_X11_56 rfl (sw_tyR cl_11 (Nat.le_of_ble_eq_true rfl) (fun _ => ⟨rfl, rfl⟩)) rfl (Nat.le_of_ble_eq_true rfl) ?_
  refine SW.aload_n (pc := 126) g (dt dt_X11_init 61 rfl) rfl ?_
  refine SW.sipush (pc := 127) (v := 150) g (dt dt_X11_init 62 rfl) ks_150 ?_
  refine SW.newa (pc := 130) (n := 78) (N := 150) g (dt dt_X11_init 63 rfl) (gtb_of (tbm_1 (List.mem_of_getElem? (i := 76) rfl)) rfl) (by decide) (by decide) (Nat.le_of_ble_eq_true rfl) rfl (Nat.le_of_ble_eq_true rfl) rfl rfl rfl (Nat.le_of_ble_eq_true rfl) (Nat.le_of_ble_eq_true rfl) (fun ad1 hx1 => ?_)
  have hx := sw_ext_trans hx hx1 (Nat.le_of_ble_eq_true rfl)
  have g := sw_ok_ext g hx1
  refine SW.genM h (fun μ16 h => ?_)
  refine SW.putR (pc := 132) g hname (dt dt_X11_init 64 rfl) fl_X11_59 rfl (sw_tyR cl_11 (Nat.le_of_ble_eq_true rfl) (fun _ => ⟨rfl, rfl⟩)) rfl (Nat.le_of_ble_eq_true rfl) ?_
  refine SW.aload_n (pc := 135) g (dt dt_X11_init 65 rfl) rfl ?_
  refine SW.sipush (pc := 136) (v := 150) g (dt dt_X11_init 66 rfl) ks_150 ?_
  refine SW.newa (pc := 139) (n := 79) (N := 150) g (dt dt_X11_init 67 rfl) (gtb_of (tbm_1 (List.mem_of_getElem? (i := 76) rfl)) rfl) (by decide) (by decide) (Nat.le_of_ble_eq_true rfl) rfl (Nat.le_of_ble_eq_true rfl) rfl rfl rfl (Nat.le_of_ble_eq_true rfl) (Nat.le_of_ble_eq_true rfl) (fun ad1 hx1 => ?_)
  have hx := sw_ext_trans hx hx1 (Nat.le_of_ble_eq_true rfl)
  have g := sw_ok_ext g hx1
  refine SW.genM h (fun μ17 h => ?_)
  refine SW.putR (pc := 141) g hname (dt dt_X11_init 68 rfl) fl_X11_62 rfl (sw_tyR cl_11 (Nat.le_of_ble_eq_true rfl) (fun _ => ⟨rfl, rfl⟩)) rfl (Nat.le_of_ble_eq_true rfl) ?_
  refine SW.aload_n (pc := 144) g (dt dt_X11_init 69 rfl) rfl ?_
  refine SW.bipush (pc := 145) (v := 49) g (dt dt_X11_init 70 rfl) kb_49 ?_
  refine SW.newa (pc := 147) (n := 80) (N := 49) g (dt dt_X11_init 71 rfl) (gtb_of (tbm_1 (List.mem_of_getElem? (i := 76) rfl)) rfl) (by decide) (by decide) (Nat.le_of_ble_eq_true rfl) rfl (Nat.le_of_ble_eq_true rfl) rfl rfl rfl (Nat.le_of_ble_eq_true rfl) (Nat.le_of_ble_eq_true rfl) (fun ad1 hx1 => ?_)
  have hx := sw_ext_trans hx hx1 (Nat.le_of_ble_eq_true rfl)
  have g := sw_ok_ext g hx1
  refine SW.genM h (fun μ18 h => ?_)
  refine SW.putR (pc := 149) g hname (dt dt_X11_init 72 rfl) fl_X11_65 rfl (sw_tyR cl_11 (Nat.le_of_ble_eq_true rfl) (fun _ => ⟨rfl, rfl⟩)) rfl (Nat.le_of_ble_eq_true rfl) ?_
  refine SW.aload_n (pc := 152) g (dt dt_X11_init 73 rfl) rfl ?_
  refine SW.bipush (pc := 153) (v := 49) g (dt dt_X11_init 74 rfl) kb_49 ?_
  refine SW.newa (pc := 155) (n := 81) (N := 49) g (dt dt_X11_init 75 rfl) (gtb_of (tbm_1 (List.mem_of_getElem? (i := 76) rfl)) rfl) (by decide) (by decide) (Nat.le_of_ble_eq_true rfl) rfl (Nat.le_of_ble_eq_true rfl) rfl rfl rfl (Nat.le_of_ble_eq_true rfl) (Nat.le_of_ble_eq_true rfl) (fun ad1 hx1 => ?_)
  have hx := sw_ext_trans hx hx1 (Nat.le_of_ble_eq_true rfl)
  have g := sw_ok_ext g hx1
  refine SW.genM h (fun μ19 h => ?_)
  refine SW.putR (pc := 157) g hname (dt dt_X11_init 76 rfl) fl_X11_68 rfl (sw_tyR cl_11 (Nat.le_of_ble_eq_true rfl) (fun _ => ⟨rfl, rfl⟩)) rfl (Nat.le_of_ble_eq_true rfl) ?_
  refine SW.aload_n (pc := 160) g (dt dt_X11_init 77 rfl) rfl ?_
  refine SW.sipush (pc := 161) (v := 784) g (dt dt_X11_init 78 rfl) ks_784 ?_
  refine SW.newa (pc := 164) (n := 82) (N := 784) g (dt dt_X11_init 79 rfl) (gtb_of (tbm_1 (List.mem_of_getElem? (i := 76) rfl)) rfl) (by decide) (by decide) (Nat.le_of_ble_eq_true rfl) rfl (Nat.le_of_ble_eq_true rfl) rfl rfl rfl (Nat.le_of_ble_eq_true rfl) (Nat.le_of_ble_eq_true rfl) (fun ad1 hx1 => ?_)
  have hx := sw_ext_trans hx hx1 (Nat.le_of_ble_eq_true rfl)
  have g := sw_ok_ext g hx1
  refine SW.genM h (fun μ20 h => ?_)
  refine SW.putR (pc := 166) g hname (dt dt_X11_init 80 rfl) fl_X11_71 rfl (sw_tyR cl_11 (Nat.le_of_ble_eq_true rfl) (fun _ => ⟨rfl, rfl⟩)) rfl (Nat.le_of_ble_eq_true rfl) ?_
  refine SW.aload_n (pc := 169) g (dt dt_X11_init 81 rfl) rfl ?_
  refine SW.bipush (pc := 170) (v := 41) g (dt dt_X11_init 82 rfl) kb_41 ?_
  refine SW.newa (pc := 172) (n := 83) (N := 41) g (dt dt_X11_init 83 rfl) (gtb_of (tbm_1 (List.mem_of_getElem? (i := 76) rfl)) rfl) (by decide) (by decide) (Nat.le_of_ble_eq_true rfl) rfl (Nat.le_of_ble_eq_true rfl) rfl rfl rfl (Nat.le_of_ble_eq_true rfl) (Nat.le_of_ble_eq_true rfl) (fun ad1 hx1 => ?_)
  have hx := sw_ext_trans hx hx1 (Nat.le_of_ble_eq_true rfl)
  have g := sw_ok_ext g hx1
  refine SW.genM h (fun μ21 h => ?_)
  refine SW.putR (pc := 174) g hname (dt dt_X11_init 84 rfl) fl_X11_74 rfl (sw_tyR cl_11 (Nat.le_of_ble_eq_true rfl) (fun _ => ⟨rfl, rfl⟩)) rfl (Nat.le_of_ble_eq_true rfl) ?_
  refine SW.aload_n (pc := 177) g (dt dt_X11_init 85 rfl) rfl ?_
  refine SW.bipush (pc := 178) (v := 41) g (dt dt_X11_init 86 rfl) kb_41 ?_
  refine SW.newa (pc := 180) (n := 84) (N := 41) g (dt dt_X11_init 87 rfl) (gtb_of (tbm_1 (List.mem_of_getElem? (i := 76) rfl)) rfl) (by decide) (by decide) (Nat.le_of_ble_eq_true rfl) rfl (Nat.le_of_ble_eq_true rfl) rfl rfl rfl (Nat.le_of_ble_eq_true rfl) (Nat.le_of_ble_eq_true rfl) (fun ad1 hx1 => ?_)
  have hx := sw_ext_trans hx hx1 (Nat.le_of_ble_eq_true rfl)
  have g := sw_ok_ext g hx1
  refine SW.genM h (fun μ22 h => ?_)
  refine SW.putR (pc := 182) g hname (dt dt_X11_init 88 rfl) fl_X11_77 rfl (sw_tyR cl_11 (Nat.le_of_ble_eq_true rfl) (fun _ => ⟨rfl, rfl⟩)) rfl (Nat.le_of_ble_eq_true rfl) ?_
  refine SW.aload_n (pc := 185) g (dt dt_X11_init 89 rfl) rfl ?_
  refine SW.sipush (pc := 186) (v := 533) g (dt dt_X11_init 90 rfl) ks_533 ?_
  refine SW.newa (pc := 189) (n := 85) (N := 533) g (dt dt_X11_init 91 rfl) (gtb_of (tbm_1 (List.mem_of_getElem? (i := 76) rfl)) rfl) (by decide) (by decide) (Nat.le_of_ble_eq_true rfl) rfl (Nat.le_of_ble_eq_true rfl) rfl rfl rfl (Nat.le_of_ble_eq_true rfl) (Nat.le_of_ble_eq_true rfl) (fun ad1 hx1 => ?_)
  have hx := sw_ext_trans hx hx1 (Nat.le_of_ble_eq_true rfl)
  have g := sw_ok_ext g hx1
  refine SW.genM h (fun μ23 h => ?_)
  refine SW.putR (pc := 191) g hname (dt dt_X11_init 92 rfl) fl_X11_80 rfl (sw_tyR cl_11 (Nat.le_of_ble_eq_true rfl) (fun _ => ⟨rfl, rfl⟩)) rfl (Nat.le_of_ble_eq_true rfl) ?_
  refine SW.aload_n (pc := 194) g (dt dt_X11_init 93 rfl) rfl ?_
  refine SW.sipush (pc := 195) (v := 2502) g (dt dt_X11_init 94 rfl) ks_2502 ?_
  refine SW.newa (pc := 198) (n := 86) (N := 2502) g (dt dt_X11_init 95 rfl) (gtb_of (tbm_1 (List.mem_of_getElem? (i := 76) rfl)) rfl) (by decide) (by decide) (Nat.le_of_ble_eq_true rfl) rfl (Nat.le_of_ble_eq_true rfl) rfl rfl rfl (Nat.le_of_ble_eq_true rfl) (Nat.le_of_ble_eq_true rfl) (fun ad1 hx1 => ?_)
  have hx := sw_ext_trans hx hx1 (Nat.le_of_ble_eq_true rfl)
  have g := sw_ok_ext g hx1
  refine SW.genM h (fun μ24 h => ?_)
  refine SW.putR (pc := 200) g hname (dt dt_X11_init 96 rfl) fl_X11_83 rfl (sw_tyR cl_11 (Nat.le_of_ble_eq_true rfl) (fun _ => ⟨rfl, rfl⟩)) rfl (Nat.le_of_ble_eq_true rfl) ?_
  refine SW.aload_n (pc := 203) g (dt dt_X11_init 97 rfl) rfl ?_
  obtain ⟨r25, h25, h⟩ := bindI h
  refine SW.callVv (pc := 204) g (dt dt_X11_init 98 rfl) (mt_f_m_clears_ly31 _ _ _ _ _ ν N μ24 r25 h25) me_X11_clears mv_X11_clears ml_X11_86 rfl rfl rfl (Nat.le_of_ble_eq_true rfl) (Nat.le_of_ble_eq_true rfl) (Nat.le_of_ble_eq_true rfl) (Nat.le_of_ble_eq_true rfl) rfl ?_
  refine SW.aload_n (pc := 207) g (dt dt_X11_init 99 rfl) rfl ?_
  obtain ⟨r26, h26, h⟩ := bindI h
  refine SW.callVv (pc := 208) g (dt dt_X11_init 100 rfl) (mt_f_m_sets_ly31 _ _ _ _ _ ν N r25 r26 h26) me_X11_sets mv_X11_sets ml_X11_89 rfl rfl rfl (Nat.le_of_ble_eq_true rfl) (Nat.le_of_ble_eq_true rfl) (Nat.le_of_ble_eq_true rfl) (Nat.le_of_ble_eq_true rfl) rfl ?_
  exact SW.vreturn (pc := 211) g (leafV h ho) hx (Nat.le_of_ble_eq_true rfl) (Nat.le_of_ble_eq_true rfl) (dt dt_X11_init 101 rfl)

