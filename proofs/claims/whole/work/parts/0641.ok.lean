theorem am_kl8 : (List.range 120).all (fun k => am_okA 299 (960 + k)) = true := by decide +kernel
