theorem am_kl2 : (List.range 120).all (fun k => am_okA 299 (240 + k)) = true := by decide +kernel
