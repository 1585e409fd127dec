theorem zz_probe : nI 3 = nI 3 := rfl
