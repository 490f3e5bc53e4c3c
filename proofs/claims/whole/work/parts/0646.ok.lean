theorem am_kl13 : (List.range 50).all (fun k => am_okA 299 (1490 + k)) = true := by decide +kernel
