/** Texts with and without a FAULT: STREETS, BOOKS and SENTENCES (promises 4, 5, 35, 37). */
public final class TextsTest {
    private static final Kit KIT = new Kit();
    private static final String[] WORDS = {"wall", "house", "outside", "drain", "crest", "gauge", "people", "sand",
        "rate", "post", "quit", "up", "hour", "or", "and", "not", "flooded", "upped", "safe", "behind", "worth",
        "floor", "number"};

    public static void main(String[] args) {
        streetTokens();
        streetNames();
        streetNumbers();
        streetLimits();
        streetLength();
        books();
        sentences();
        KIT.finish();
    }

    private static void street(String text, int answer, int fault) {
        BagsRiver x = Kit.on("wall keep 3;");
        KIT.same("street <" + text + ">", Kit.street(x, text), answer);
        KIT.same("fault of <" + text + ">", x.fault(), fault);
        KIT.same("tape behind <" + text + ">", x.count(6), 0);
        if (fault != 0) {
            KIT.same("walls behind <" + text + ">", x.count(0), 1);
            KIT.same("wide behind <" + text + ">", x.wall(0, 0), 3);
        }
    }

    /** A street's text that is wrong from the byte told on. */
    private static void wrong(String text, int place, int fault) {
        street(text, -1 - place, fault);
    }

    private static void streetTokens() {
        KIT.part("tokens of a street");
        street("", 0, 0);
        street(" \n ", 0, 0);
        street("wall w 1;", 1, 0);
        street("wall w 1 \n;\nwall\nv\n2\n;", 2, 0);
        street("people 1;sand 0;rate 1;", 3, 0);
        street("wall sevenle 1;", 1, 0);
        street("house h outside 001 060;", 1, 0);
        wrong(";", 0, 1);
        wrong("  ;", 2, 1);
        wrong("wall", 4, 1);
        wrong("wall  ", 6, 1);
        wrong("wall w", 6, 1);
        wrong("wall w 1", 8, 1);
        wrong("wall w 1 \n", 10, 1);
        wrong("wallw 1;", 0, 1);
        wrong("7 w 1;", 0, 1);
        wrong("outside;", 0, 1);
        wrong("post 1 1 w;", 0, 1);
        wrong("wall w1;", 5, 1);
        wrong("wall w1 1;", 5, 1);
        wrong("wall w 1w;", 7, 1);
        wrong("wall w 1 1;", 9, 1);
        wrong("wall w;", 6, 1);
        wrong("wall ;", 5, 1);
        wrong("wall 1 1;", 5, 1);
        wrong("wall eightlet 1;", 5, 1);
        wrong("wall W 1;", 5, 1);
        wrong("wall wA 1;", 6, 1);
        wrong("wall w 0001;", 7, 1);
        wrong("wall w 1;;", 9, 1);
        wrong("wall w 1.", 8, 1);
        wrong("wall w 1)", 8, 1);
        wrong("wall w -1;", 7, 1);
        wrong("wall\tw 1;", 4, 1);
        wrong("wall\rw 1;", 4, 1);
        wrong("wall w" + (char) 0 + "1;", 6, 1);
        wrong("wall w" + (char) 255 + "1;", 6, 1);
        wrong("wall w 1;{", 9, 1);
        wrong("wall ` 1;", 5, 1);
        wrong("wall w :;", 7, 1);
        wrong("wall w /;", 7, 1);
        wrong("wall w 1;wall v 0;wall v 1;", 16, 2);
        for (String word : WORDS) {
            wrong("wall " + word + " 1;", 5, 1);
            wrong("house " + word + " outside 1 1;", 6, 1);
            wrong("wall w 1;drain " + word + " w 1 1;", 15, 1);
            if (!word.equals("outside")) {
                wrong("house h " + word + " 1 1;", 8, 1);
            }
            wrong("wall w 1;drain d " + word + " 1 1;", 17, 1);
        }
    }

    private static void streetNames() {
        KIT.part("names of a street");
        wrong("wall w 1;wall w 1;", 14, 3);
        wrong("house w outside 1 1;wall w 1;", 25, 3);
        wrong("wall w 1;house w w 1 1;", 15, 3);
        wrong("wall w 1;drain w w 1 1;", 15, 3);
        wrong("wall w 1;drain d w 1 1;drain d w 1 1;", 29, 3);
        wrong("wall w 1;house h w 1 1;drain h w 1 1;", 29, 3);
        wrong("house h w 1 1;", 8, 3);
        wrong("house h w 1 1;wall w 1;", 8, 3);
        wrong("house h h 1 1;", 8, 3);
        wrong("house h outside 1 1;house g h 1 1;", 28, 3);
        wrong("wall w 1;drain d w 1 1;house g d 1 1;", 31, 3);
        wrong("drain d w 1 1;", 8, 3);
        wrong("drain d outside 1 1;", 8, 1);
        wrong("house h 1 1 1;", 8, 1);
        wrong("crest 5 1;crest 5 2;", 16, 3);
        wrong("crest 5 1;crest 005 2;", 16, 3);
        wrong("gauge 5 1;gauge 5 1;", 16, 3);
        wrong("people 5;people 5;", 9, 3);
        wrong("sand 5;sand 5;", 7, 3);
        wrong("rate 5;rate 5;", 7, 3);
        street("crest 5 1;gauge 5 1;crest 6 1;gauge 6 1;", 4, 0);
        street("wall az 1;wall zz 1;wall z 1;house azz zz 1 1;drain zzzzzzz z 1 1;", 5, 0);
        street("wall ab 1;wall ba 1;wall a 1;wall b 1;wall aa 1;", 5, 0);
    }

    private static void range(String ahead, int least, int most, String behind) {
        street(ahead + least + behind, (int) (ahead + behind).chars().filter(c -> c == ';').count(), 0);
        street(ahead + most + behind, (int) (ahead + behind).chars().filter(c -> c == ';').count(), 0);
        wrong(ahead + (most + 1) + behind, ahead.length(), 2);
        if (least > 0) {
            wrong(ahead + (least - 1) + behind, ahead.length(), 2);
        }
        wrong(ahead + ";", ahead.length(), 1);
        wrong(ahead + "x" + behind, ahead.length(), 1);
        wrong(ahead, ahead.length(), 1);
    }

    private static void streetNumbers() {
        KIT.part("numbers of a street");
        range("wall w ", 1, 20, ";");
        range("house h outside ", 1, 99, " 5;");
        range("house h outside 5 ", 0, 60, ";");
        range("wall w 1;house h w ", 1, 99, " 5;");
        range("wall w 1;drain d w ", 0, 60, " 5;");
        range("wall w 1;drain d w 5 ", 1, 40, ";");
        range("crest ", 0, 60, " 5;");
        range("crest 5 ", 1, 99, ";");
        range("gauge ", 0, 47, " 5;");
        range("gauge 5 ", 0, 60, ";");
        range("people ", 1, 60, ";");
        range("rate ", 1, 20, ";");
        street("sand 0;", 1, 0);
        street("sand 999;", 1, 0);
        wrong("sand 1000;", 5, 1);
    }

    private static String lines(String sort, int many, String behind) {
        StringBuilder all = new StringBuilder();
        for (int i = 0; i < many; i++) {
            all.append(sort).append(' ').append((char) ('a' + i)).append(behind);
        }
        return all.toString();
    }

    private static String pairs(String sort, int many) {
        StringBuilder all = new StringBuilder();
        for (int i = 0; i < many; i++) {
            all.append(sort).append(' ').append(i).append(" 1;");
        }
        return all.toString();
    }

    private static void limit(String full, int lines, String more) {
        street(full, lines, 0);
        wrong(full + more, full.length(), 4);
        String word = more.substring(0, more.indexOf(' '));
        wrong(full + word, full.length(), 4);
        wrong(full + word + ";", full.length(), 4);
    }

    private static void streetLimits() {
        KIT.part("one more than there may be");
        limit(lines("wall", 5, " 1;"), 5, "wall z 1;");
        limit(lines("wall", 5, " 1;"), 5, "wall a 1;");
        limit(lines("house", 10, " outside 1 1;"), 10, "house z outside 1 1;");
        limit("wall w 1;" + lines("drain", 6, " w 1 1;"), 7, "drain z w 1 1;");
        limit(pairs("crest", 6), 6, "crest 9 1;");
        limit(pairs("crest", 6), 6, "crest 1 1;");
        limit(pairs("gauge", 8), 8, "gauge 9 1;");
    }

    private static void streetLength() {
        KIT.part("a long street");
        street(Kit.padded("wall w 1;", 900), 1, 0);
        wrong(Kit.padded("wall w 1;", 901), 900, 1);
        wrong(Kit.padded("wall w 1;", 940), 900, 1);
        wrong(Kit.padded("wall w 1", 899) + "  ;", 900, 1);
        street(Kit.padded("wall w 1", 899) + ";", 1, 0);
        wrong(Kit.padded("wall w 1", 900) + ";", 900, 1);
        wrong(Kit.padded("wall w 1", 900), 900, 1);
        wrong(Kit.padded("wall w 1;", 899) + "wall v 1;", 900, 1);
        wrong(Kit.padded("wall w 1;", 898) + "walls v 1;", 898, 1);
        wrong(Kit.padded("wall", 899) + "eightlet 1;", 899, 1);
        wrong(Kit.padded("wall", 899) + "sevenle 1;", 900, 1);
        wrong(Kit.padded("wall w", 899) + "21;", 899, 2);
        wrong(Kit.padded("wall w", 899) + "20;", 900, 1);
        wrong(Kit.padded("wall w 1;wall", 899) + "w 1;", 899, 3);
        wrong(Kit.padded(lines("wall", 5, " 1;"), 899) + "wall z 1;", 899, 4);
        wrong(Kit.padded(lines("wall", 5, " 1;"), 900) + "wall z 1;", 900, 1);
        wrong(Kit.padded("wall w 0;", 940), 7, 2);
        BagsRiver x = new BagsRiver();
        KIT.same("a street of 900 blanks", Kit.street(x, Kit.repeat("\n", 900)), 0);
        KIT.same("its fault", x.fault(), 0);
    }

    private static void book(String text, int answer, int fault) {
        BagsRiver x = Kit.on(Kit.STREET);
        KIT.same("book <" + text + ">", Kit.book(x, text, 0), answer);
        KIT.same("fault of book <" + text + ">", x.fault(), fault);
        KIT.same("tape behind book <" + text + ">", x.count(6), 0);
        if (fault != 0) {
            KIT.same("told behind <" + text + ">", x.told(0), -1);
            KIT.same("book <" + text + "> lived", Kit.book(x, text, 1), answer);
            KIT.same("undo behind book <" + text + ">", x.undo(), -1);
        }
    }

    private static void wrongBook(String text, int place, int fault) {
        book(text, -2 - place, fault);
    }

    private static void books() {
        KIT.part("books");
        book("", -1, 0);
        book("\n", -1, 0);
        book("post 1 2 left;post 60 60 sink;quit right;up inn;hour 1;hour 24;", 1, 0);
        book("post 1 2 left ; post 0 0 sink;quit right;up inn;hour 1;hour 24 ;", -1, 0);
        wrongBook("post", 4, 1);
        wrongBook("post 1 2 left", 13, 1);
        wrongBook("post 1 left;", 7, 1);
        wrongBook("post 1 2 3 left;", 9, 1);
        wrongBook("post 61 1 left;", 5, 2);
        wrongBook("post 1 61 left;", 7, 2);
        wrongBook("post 1 1 mill;", 9, 3);
        wrongBook("post 1 1 nobody;", 9, 3);
        wrongBook("post 1 1 outside;", 9, 1);
        wrongBook("post 1 1 7;", 9, 1);
        wrongBook("quit;", 4, 1);
        wrongBook("quit mill;", 5, 3);
        wrongBook("quit sink;", 5, 3);
        wrongBook("quit nobody;", 5, 3);
        wrongBook("quit 0;", 5, 1);
        wrongBook("quit left", 9, 1);
        wrongBook("quit left right;", 10, 1);
        wrongBook("up left;", 3, 3);
        wrongBook("up sink;", 3, 3);
        wrongBook("up nobody;", 3, 3);
        wrongBook("up;", 2, 1);
        wrongBook("hour 0;", 5, 2);
        wrongBook("hour 25;", 5, 2);
        wrongBook("hour;", 4, 1);
        wrongBook("hour left;", 5, 1);
        wrongBook("hour 1;wall w 1;", 7, 1);
        wrongBook("hour 1;;", 7, 1);
        wrongBook("left 1;", 0, 1);
        wrongBook("quit left;quit nobody;", 15, 3);
        String full = Kit.repeat("hour 1;", 40);
        book(full, -1, 0);
        wrongBook(full + "hour 1;", 280, 4);
        wrongBook(full + "post 99", 280, 4);
        wrongBook(full + "wall", 280, 1);
        wrongBook(full + ";", 280, 1);
        book(Kit.padded("hour 1;", 400), -1, 0);
        wrongBook(Kit.padded("hour 1;", 401), 400, 1);
        wrongBook(Kit.padded("hour", 399) + "25;", 399, 2);
        wrongBook(Kit.padded("hour", 399) + "24;", 400, 1);
        wrongBook(Kit.padded("hour", 400) + "24;", 400, 1);
    }

    private static void sentence(String text, int answer, int fault) {
        BagsRiver x = Kit.on(Kit.STREET);
        KIT.same("sentence <" + text + ">", Kit.sentence(x, text), answer);
        KIT.same("fault of sentence <" + text + ">", x.fault(), fault);
        KIT.same("tape behind sentence <" + text + ">", x.count(6), 0);
        KIT.yes("a sentence is there behind <" + text + ">", x.said(-1) >= 0 == (fault == 0));
    }

    private static void wrongSentence(String text, int place, int fault) {
        sentence(text, -1 - place, fault);
    }

    private static void sentences() {
        KIT.part("sentences");
        sentence("flooded", 1, 0);
        sentence(" upped\n", 1, 0);
        sentence("not safe", 2, 0);
        sentence("(safe)", 2, 0);
        sentence("not(not(outside or behind left)and worth<10)or floor=0 and number>999", 9, 0);
        sentence("worth < 999", 1, 0);
        wrongSentence("", 0, 1);
        wrongSentence("  ", 2, 1);
        wrongSentence("not", 3, 1);
        wrongSentence("not not ", 8, 1);
        wrongSentence("and", 0, 1);
        wrongSentence("safe or", 7, 1);
        wrongSentence("safe and", 8, 1);
        wrongSentence("safe safe", 5, 1);
        wrongSentence("safe;", 4, 1);
        wrongSentence("safe.", 4, 1);
        wrongSentence("safe)", 4, 1);
        wrongSentence("(safe", 5, 1);
        wrongSentence("(safe or)", 8, 1);
        wrongSentence("()", 1, 1);
        wrongSentence("(safe safe)", 6, 1);
        wrongSentence("left", 0, 1);
        wrongSentence("house", 0, 1);
        wrongSentence("behind", 6, 1);
        wrongSentence("behind mill", 7, 3);
        wrongSentence("behind sink", 7, 3);
        wrongSentence("behind nobody", 7, 3);
        wrongSentence("behind outside", 7, 1);
        wrongSentence("behind 1", 7, 1);
        wrongSentence("worth 5", 6, 1);
        wrongSentence("worth <", 7, 1);
        wrongSentence("worth < x", 8, 1);
        wrongSentence("worth < 1000", 8, 1);
        wrongSentence("worth <> 10", 7, 1);
        wrongSentence("worth ( 10", 6, 1);
        wrongSentence("floor ; 10", 6, 1);
        String twenty = "safe" + Kit.repeat(" or safe", 19);
        sentence(twenty, 20, 0);
        wrongSentence(twenty + " or safe", twenty.length() + 4, 4);
        wrongSentence(twenty + " or left", twenty.length() + 4, 1);
        wrongSentence(twenty + " or ", twenty.length() + 4, 1);
        wrongSentence(Kit.repeat("safe and ", 20) + "not safe", 180, 4);
        sentence(Kit.repeat("not ", 7) + "safe", 8, 0);
        wrongSentence(Kit.repeat("not ", 8) + "safe", 32, 4);
        wrongSentence(Kit.repeat("not ", 9) + "safe", 32, 4);
        wrongSentence(Kit.repeat("not ", 8) + "left", 32, 1);
        sentence(Kit.repeat("(", 7) + "safe or safe" + Kit.repeat(")", 7) + "and safe", 10, 0);
        wrongSentence(Kit.repeat("(", 8) + "safe" + Kit.repeat(")", 8), 8, 4);
        wrongSentence(Kit.repeat("(", 9) + "safe" + Kit.repeat(")", 9), 8, 4);
        wrongSentence(Kit.repeat("not(", 4) + "safe" + Kit.repeat(")", 4), 16, 4);
        sentence(Kit.repeat("not(", 3) + "not safe" + Kit.repeat(")", 3), 8, 0);
        sentence(Kit.padded("safe", 200), 1, 0);
        wrongSentence(Kit.padded("safe", 201), 200, 1);
        wrongSentence(Kit.padded("worth <", 199) + "1000", 199, 1);
        wrongSentence(Kit.padded("worth <", 199) + "10", 200, 1);
    }
}
