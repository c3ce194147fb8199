import java.util.List;

/** Each sentence of the document that names a boundary of a text: TOKENS, STREET, BOOK, SENTENCE, FAULTS. */
public final class TextBoundariesTest {
    private static final Kit KIT = new Kit();
    private static final String[] TOLD_HERE = {"wall", "house", "outside", "drain", "crest", "gauge", "people", "sand",
        "rate", "post", "quit", "up", "hour", "or", "and", "not", "flooded", "upped", "safe", "behind", "worth",
        "floor", "number"};
    private static final List<String> FIRST_OF_STREET = List.of("wall", "house", "drain", "crest", "gauge", "people",
        "sand", "rate");
    private static final List<String> FIRST_OF_BOOK = List.of("post", "quit", "up", "hour");
    private static final String FIVE_WALLS = "wall a 1;wall b 1;wall c 1;wall d 1;wall e 1;";
    private static final int WALL_BYTES = 9;

    public static void main(String[] args) {
        blanksBetween();
        noBlanksBetween();
        wordsOfOneToSeven();
        smallLettersAlone();
        numbersOfOneToThree();
        signs();
        goesOnAsLong();
        streetOf900Bytes();
        streetOfNoLine();
        wallWide();
        houseWorth();
        houseFloor();
        drainInch();
        drainBags();
        crestInch();
        crestOdds();
        gaugeHour();
        gaugeInch();
        people();
        sand();
        rate();
        nameIsNoWordToldHere();
        nameToldOnce();
        namesThatAreNearOneAnother();
        fiveWalls();
        tenHouses();
        sixDrains();
        sixCrests();
        eightGauges();
        asMuchOfAllAsThereMayBe();
        numberedFromZeroEach();
        bookOf400Bytes();
        bookOf40Lines();
        bookPost();
        bookHour();
        bookNames();
        sentenceOf200Bytes();
        sentenceOfNothing();
        sentenceAllsAndOnes();
        sentenceNumbers();
        sentenceNames();
        twentyOnes();
        eightWithin();
        faultAtTheFirstByte();
        faultAtTheEnd();
        faultBehindTheMostBytes();
        faultOfANumber();
        faultOfAName();
        faultOfWhatIsToldAgain();
        faultOfOneMore();
        theFirstAlongTheText();
        ofOneTokenTheLeast();
        KIT.finish();
    }

    /** A STREET without a FAULT; another object each time. */
    private static BagsRiver street(String text, int lines) {
        BagsRiver x = Kit.on("wall keep 3;");
        KIT.same("street <" + text + ">", Kit.street(x, text), lines);
        KIT.same("fault of <" + text + ">", x.fault(), 0);
        return x;
    }

    private static void wrongStreet(String text, int place, int kind) {
        BagsRiver x = Kit.on("wall keep 3;");
        KIT.same("street <" + text + ">", Kit.street(x, text), -1 - place);
        KIT.same("fault of <" + text + ">", x.fault(), kind);
        KIT.same("walls behind <" + text + ">", x.count(0), 1);
        KIT.same("wide behind <" + text + ">", x.wall(0, 0), 3);
    }

    private static void book(String text, int answer) {
        BagsRiver x = Kit.on(Kit.STREET);
        KIT.same("book <" + text + ">", Kit.book(x, text, 0), answer);
        KIT.same("fault of book <" + text + ">", x.fault(), 0);
    }

    private static void wrongBook(String text, int place, int kind) {
        BagsRiver x = Kit.on(Kit.STREET);
        KIT.same("book <" + text + ">", Kit.book(x, text, 1), -2 - place);
        KIT.same("fault of book <" + text + ">", x.fault(), kind);
        KIT.same("nothing is told of <" + text + ">", x.told(0), -1);
        KIT.same("nothing is lived of <" + text + ">", x.undo(), -1);
    }

    private static void sentence(String text, int ones) {
        BagsRiver x = Kit.on(Kit.STREET);
        KIT.same("sentence <" + text + ">", Kit.sentence(x, text), ones);
        KIT.same("fault of sentence <" + text + ">", x.fault(), 0);
    }

    private static void wrongSentence(String text, int place, int kind) {
        BagsRiver x = Kit.on(Kit.STREET);
        KIT.same("sentence <" + text + ">", Kit.sentence(x, text), -1 - place);
        KIT.same("fault of sentence <" + text + ">", x.fault(), kind);
        KIT.same("no SENTENCE behind <" + text + ">", x.said(-1), -1);
    }

    private static boolean isLetter(int c) {
        return c >= 'a' && c <= 'z';
    }

    private static void blanksBetween() {
        KIT.quote("TOKENS of all texts, with blanks (32, 10) between them or not");
        for (int c = 0; c < 256; c++) {
            String text = "wall " + (char) c + " w 1;";
            if (c == 32 || c == 10) {
                street(text, 1);
                sentence("not " + (char) c + " safe", 2);
                book("hour " + (char) c + " 1;", -1);
            } else if (isLetter(c)) {
                wrongStreet(text, 7, 1);
            } else {
                wrongStreet(text, 5, 1);
                wrongSentence("not " + (char) c + (c == '(' ? "" : " safe"), c == '(' ? 5 : 4, 1);
            }
            if (c != 32 && c != 10 && (c < '0' || c > '9')) {
                wrongBook("hour " + (char) c + " 1;", 5, 1);
            }
        }
        street(" \n wall\n\nw  1 \n ; \n", 1);
        sentence("\n(\nsafe\n)\n", 2);
        book("\nhour\n1\n;\n", -1);
    }

    private static void noBlanksBetween() {
        KIT.quote("TOKENS of all texts, with blanks (32, 10) between them or not");
        street("wall w 1;wall v 2;people 3;", 3);
        sentence("(not(safe)or(worth<10)and(floor=0)or number>3)", 9);
        book("hour 1;hour 2;quit left;up inn;", -1);
        wrongStreet("wallw 1;", 0, 1);
        wrongStreet("wall w1;", 5, 1);
        wrongSentence("notsafe", 0, 1);
        wrongBook("hour1;", 0, 1);
    }

    private static void wordsOfOneToSeven() {
        KIT.quote("WORDS: small letters, 1 to 7");
        for (int n = 1; n <= 7; n++) {
            BagsRiver x = street("wall " + Kit.repeat("z", n) + " 4;", 1);
            KIT.same("a NAME of " + n, Kit.book(x, "quit " + Kit.repeat("z", n) + ";", 0), -1);
            KIT.same("another NAME", Kit.book(x, "quit " + Kit.repeat("z", n - 1) + "y;", 0), -7);
        }
        for (int n = 8; n <= 40; n++) {
            wrongStreet("wall " + Kit.repeat("z", n) + " 4;", 5, 1);
        }
        wrongStreet("outsides 4;", 0, 1);
        wrongStreet("house h outsides 4 4;", 8, 1);
        wrongSentence("outsides", 0, 1);
        wrongBook("quit leftleft;", 5, 1);
    }

    private static void smallLettersAlone() {
        KIT.quote("WORDS: small letters, 1 to 7");
        for (char c = 'a'; c <= 'z'; c++) {
            street("wall " + c + " 1;", 1);
            street("wall " + c + "q" + c + " 1;", 1);
        }
        for (int c = 0; c < 256; c++) {
            boolean goesOn = isLetter(c) || c >= '0' && c <= '9';
            if (!goesOn && c != 32 && c != 10) {
                wrongStreet("wall " + (char) c + "w 1;", 5, 1);
                wrongStreet("wall w" + (char) c + " 1;", 6, 1);
                wrongStreet("wall w" + (char) c + "w 1;", 6, 1);
            }
        }
    }

    private static void numbersOfOneToThree() {
        KIT.quote("NUMBERS: 1 to 3 digits");
        for (int n = 0; n <= 9; n++) {
            KIT.same("sand " + n, street("sand " + n + ";", 1).now(2), n);
            KIT.same("sand 0" + n, street("sand 0" + n + ";", 1).now(2), n);
            KIT.same("sand 00" + n, street("sand 00" + n + ";", 1).now(2), n);
            KIT.same("sand " + n + "7", street("sand " + n + "7;", 1).now(2), 10 * n + 7);
            KIT.same("sand " + n + "05", street("sand " + n + "05;", 1).now(2), 100 * n + 5);
            wrongStreet("sand 000" + n + ";", 5, 1);
            wrongStreet("sand " + n + "000;", 5, 1);
            wrongStreet("sand " + Kit.repeat("" + n, 20) + ";", 5, 1);
        }
        sentence("worth<999", 1);
        sentence("worth<000", 1);
        wrongSentence("worth<1000", 6, 1);
        wrongSentence("worth<0000", 6, 1);
        book("hour 024;", -1);
        wrongBook("hour 0024;", 5, 1);
    }

    private static void signs() {
        KIT.quote("; < = > ( )");
        for (char c : "<=>().".toCharArray()) {
            wrongStreet(c + "wall w 1;", 0, 1);
            wrongStreet("wall" + c + "w 1;", 4, 1);
            wrongStreet("wall w" + c + "1;", 6, 1);
            wrongStreet("wall w 1" + c, 8, 1);
            wrongStreet("wall w 1;" + c, 9, 1);
            wrongBook(c + "hour 1;", 0, 1);
            wrongBook("hour" + c + "1;", 4, 1);
            wrongBook("hour 1" + c, 6, 1);
            wrongBook("hour 1;" + c, 7, 1);
        }
        for (char c : ";<=>).".toCharArray()) {
            wrongSentence("" + c, 0, 1);
            wrongSentence("not" + c + "safe", 3, 1);
            wrongSentence("safe" + c, 4, 1);
            wrongSentence("safe or" + c + "safe", 7, 1);
            wrongSentence("behind" + c + "left", 6, 1);
            wrongSentence("(" + c + "safe)", 1, 1);
        }
        for (char c : ";().".toCharArray()) {
            wrongSentence("worth" + c + "5", 5, 1);
        }
        for (char c : ";(<=>.".toCharArray()) {
            wrongSentence("(safe" + c, 5, 1);
        }
        for (char c : "<=>".toCharArray()) {
            sentence("worth" + c + "5", 1);
            sentence("floor" + c + "5", 1);
            sentence("number" + c + "5", 1);
        }
    }

    private static void goesOnAsLong() {
        KIT.quote("(A WORD, NUMBER goes on as long as small letters and digits do; what is not as told is no TOKEN.)");
        wrongStreet("wall w1 1;", 5, 1);
        wrongStreet("wall 1w 1;", 5, 1);
        wrongStreet("wall w1w 1;", 5, 1);
        wrongStreet("wall w 1w;", 7, 1);
        wrongStreet("wall w w1;", 7, 1);
        wrongStreet("wall1 w 1;", 0, 1);
        wrongStreet("1wall w 1;", 0, 1);
        wrongStreet("wall abcdefg1 1;", 5, 1);
        wrongStreet("wall w 123a;", 7, 1);
        wrongStreet("wall w 1;people 5p;", 16, 1);
        wrongSentence("safe1", 0, 1);
        wrongSentence("worth<5or safe", 6, 1);
        wrongBook("post 1 1left;", 7, 1);
        wrongBook("hour 5;hour5;", 7, 1);
        street("wall w 1;wall v 2;", 2);
        sentence("worth<5 or(safe)", 3);
    }

    private static void streetOf900Bytes() {
        KIT.quote("A STREET is a text of at most 900 bytes: { LINE ; }.");
        street(Kit.padded("wall w 1;", 899), 1);
        street(Kit.padded("wall w 1;", 900), 1);
        wrongStreet(Kit.padded("wall w 1;", 901), 900, 1);
        wrongStreet(Kit.padded("wall w 1;", 940), 900, 1);
        street(Kit.padded("wall w 1", 899) + ";", 1);
        wrongStreet(Kit.padded("wall w 1", 900) + ";", 900, 1);
        street(Kit.padded("", 900), 0);
        wrongStreet(Kit.padded("", 901), 900, 1);
        String full = Kit.padded("", 891) + "wall w 4;";
        KIT.same("the last LINE of 900 bytes", street(full, 1).wall(0, 0), 4);
        wrongStreet(" " + full, 900, 1);
    }

    private static void streetOfNoLine() {
        KIT.quote("A STREET is a text of at most 900 bytes: { LINE ; }.");
        KIT.same("no WALLS", street("", 0).count(0), 0);
        street(" ", 0);
        street("\n", 0);
        wrongStreet(";", 0, 1);
        wrongStreet("wall w 1", 8, 1);
        wrongStreet("wall w 1;;", 9, 1);
        wrongStreet("wall w 1 wall v 1;", 9, 1);
        wrongStreet("wall w 1;wall v 1", 17, 1);
        street("wall w 1;wall v 1;", 2);
    }

    /** A NUMBER's least and most are told, one less (if it can be written) and one more are not. */
    private static BagsRiver[] range(String ahead, int least, int most, String behind, int lines) {
        if (least > 0) {
            wrongStreet(ahead + (least - 1) + behind, ahead.length(), 2);
        }
        wrongStreet(ahead + (most + 1) + behind, ahead.length(), most == 999 ? 1 : 2);
        wrongStreet(ahead + 999 + (most == 999 ? "0" : "") + behind, ahead.length(), most == 999 ? 1 : 2);
        wrongStreet(ahead + behind, ahead.length() + (behind.startsWith(" ") ? 2 : 0), 1);
        wrongStreet(ahead + "x" + behind, ahead.length(), 1);
        wrongStreet(ahead + "-1" + behind, ahead.length(), 1);
        return new BagsRiver[] {street(ahead + least + behind, lines), street(ahead + most + behind, lines)};
    }

    private static void wallWide() {
        KIT.quote("'wall' NAME WIDE (1 to 20)");
        BagsRiver[] x = range("wall w ", 1, 20, ";", 1);
        KIT.same("the least", x[0].wall(0, 0), 1);
        KIT.same("the most", x[1].wall(0, 0), 20);
    }

    private static void houseWorth() {
        KIT.quote("'house' NAME ( WALL | 'outside' ) WORTH FLOOR (1 to 99; 0 to 60 inches)");
        wrongStreet("house h outside 0 5;", 16, 2);
        wrongStreet("house h outside 100 5;", 16, 2);
        KIT.same("the least", street("house h outside 1 5;", 1).house(0, 1), 1);
        KIT.same("the most", street("house h outside 99 5;", 1).house(0, 1), 99);
        KIT.same("behind a WALL", street("wall w 1;house h w 99 5;", 2).house(0, 0), 0);
        KIT.same("outside", street("wall w 1;house h outside 99 5;", 2).house(0, 0), -1);
        wrongStreet("wall w 1;house h w 0 5;", 19, 2);
        wrongStreet("wall w 1;house h w 100 5;", 19, 2);
        wrongStreet("wall w 1;house h 9 5;", 17, 1);
    }

    private static void houseFloor() {
        KIT.quote("'house' NAME ( WALL | 'outside' ) WORTH FLOOR (1 to 99; 0 to 60 inches)");
        BagsRiver[] x = range("house h outside 5 ", 0, 60, ";", 1);
        KIT.same("the least", x[0].house(0, 2), 0);
        KIT.same("the most", x[1].house(0, 2), 60);
    }

    private static void drainInch() {
        KIT.quote("'drain' NAME WALL INCH BAGS (0 to 60; 1 to 40)");
        String ahead = "wall w 1;drain d w ";
        wrongStreet(ahead + "61 5;", 19, 2);
        KIT.same("the least", street(ahead + "0 5;", 2).drain(0, 1), 0);
        KIT.same("the most", street(ahead + "60 5;", 2).drain(0, 1), 60);
        wrongStreet(ahead + "x 5;", 19, 1);
        wrongStreet("wall w 1;drain d outside 5 5;", 17, 1);
    }

    private static void drainBags() {
        KIT.quote("'drain' NAME WALL INCH BAGS (0 to 60; 1 to 40)");
        BagsRiver[] x = range("wall w 1;drain d w 5 ", 1, 40, ";", 2);
        KIT.same("the least", x[0].drain(0, 2), 1);
        KIT.same("the most", x[1].drain(0, 2), 40);
    }

    private static void crestInch() {
        KIT.quote("'crest' INCH ODDS (0 to 60; 1 to 99; each INCH once)");
        wrongStreet("crest 61 5;", 6, 2);
        BagsRiver least = street("crest 0 5;", 1);
        KIT.same("the least", least.sure(0, 0, 0), 1);
        KIT.same("none is an inch high", Kit.caught(() -> least.sure(60, 1, 0)), Kit.THROWS);
        BagsRiver most = street("crest 60 5;", 1);
        KIT.same("the most", most.sure(60, 60, 0), 1);
        KIT.same("none is less high", most.sure(59, 0, 0), 0);
        wrongStreet("crest x 5;", 6, 1);
    }

    private static void crestOdds() {
        KIT.quote("'crest' INCH ODDS (0 to 60; 1 to 99; each INCH once)");
        range("crest 5 ", 1, 99, ";", 1);
        BagsRiver x = street("crest 5 1;crest 6 99;", 2);
        KIT.same("1 of 100", x.sure(5, 0, 0) * 1000 + x.sure(5, 0, 1), 1100);
        KIT.same("99 of 100", x.sure(60, 6, 0) * 1000 + x.sure(60, 6, 1), 1001);
    }

    private static void gaugeHour() {
        KIT.quote("'gauge' HOUR INCH (0 to 47; 0 to 60; each HOUR once)");
        wrongStreet("gauge 48 5;", 6, 2);
        BagsRiver least = street("gauge 0 5;", 1);
        KIT.same("the least", least.now(1), 5);
        BagsRiver most = street("gauge 47 5;", 1);
        most.hours(24);
        most.hours(22);
        KIT.same("ahead of the most", most.now(0) * 100 + most.now(1), 4600);
        most.hours(1);
        KIT.same("the most", most.now(0) * 100 + most.now(1), 4705);
        wrongStreet("gauge x 5;", 6, 1);
    }

    private static void gaugeInch() {
        KIT.quote("'gauge' HOUR INCH (0 to 47; 0 to 60; each HOUR once)");
        BagsRiver[] x = range("gauge 0 ", 0, 60, ";", 1);
        KIT.same("the least", x[0].now(1), 0);
        KIT.same("the most", x[1].now(1), 60);
    }

    private static void people() {
        KIT.quote("'people' N (1 to 60; once; 10 without)");
        BagsRiver[] x = range("people ", 1, 60, ";", 1);
        KIT.same("the least", x[0].count(4), 1);
        KIT.same("the most", x[1].count(4), 60);
        KIT.same("without", street("", 0).count(4), 10);
        wrongStreet("people 5;people 5;", 9, 3);
    }

    private static void sand() {
        KIT.quote("'sand' N (0 to 999 bags; once; 900 without)");
        BagsRiver[] x = range("sand ", 0, 999, ";", 1);
        KIT.same("the least", x[0].now(2), 0);
        KIT.same("the most", x[1].now(2), 999);
        KIT.same("without", street("", 0).now(2), 900);
        wrongStreet("sand 5;sand 5;", 7, 3);
    }

    private static void rate() {
        KIT.quote("'rate' N (1 to 20; once; 11 without)");
        BagsRiver[] x = range("rate ", 1, 20, ";", 1);
        KIT.same("the least", x[0].count(5), 1);
        KIT.same("the most", x[1].count(5), 20);
        KIT.same("without", street("", 0).count(5), 11);
        wrongStreet("rate 5;rate 5;", 7, 3);
    }

    private static void nameIsNoWordToldHere() {
        KIT.quote("NAME: a WORD, none of those told here, in a BOOK or a SENTENCE; told once.");
        for (String word : TOLD_HERE) {
            wrongStreet("wall " + word + " 1;", 5, 1);
            wrongStreet("house " + word + " outside 1 1;", 6, 1);
            wrongStreet("wall w 1;drain " + word + " w 1 1;", 15, 1);
            wrongBook("quit " + word + ";", 5, 1);
            wrongBook("up " + word + ";", 3, 1);
            wrongBook("post 1 1 " + word + ";", 9, 1);
            wrongSentence("behind " + word, 7, 1);
            nearWord(word.substring(0, word.length() - 1));
            nearWord(word.substring(1));
            if (word.length() < 7) {
                nearWord(word + "x");
                nearWord(word + word.charAt(0));
            }
        }
    }

    private static void nearWord(String name) {
        if (!List.of(TOLD_HERE).contains(name)) {
            BagsRiver x = street("wall " + name + " 1;", 1);
            KIT.same(name + " is a NAME", Kit.sentence(x, "behind " + name), 1);
        }
    }

    private static void nameToldOnce() {
        KIT.quote("NAME: a WORD, none of those told here, in a BOOK or a SENTENCE; told once.");
        String[] lines = {"wall n 1;", "house n outside 1 1;", "wall w 1;drain n w 1 1;"};
        String[] again = {"wall n 2;", "house n outside 2 2;", "drain n z 2 2;"};
        int[] places = {5, 6, 6};
        for (String line : lines) {
            for (int i = 0; i < again.length; i++) {
                wrongStreet("wall z 1;" + line + again[i], 9 + line.length() + places[i], 3);
            }
        }
        wrongStreet("house n n 1 1;", 8, 3);
        wrongStreet("wall w 1;drain n n 1 1;", 17, 3);
    }

    /** No two different NAMES may be taken for one another. */
    private static void namesThatAreNearOneAnother() {
        KIT.quote("NAME: a WORD, none of those told here, in a BOOK or a SENTENCE; told once.");
        String[][] five = {{"a", "aa", "aaa", "aaaa", "aaaaa"}, {"aaaaaa", "aaaaaaa", "b", "ab", "ba"},
            {"zzzzzzz", "zzzzzz", "zzzzzy", "azzzzzz", "yzzzzzz"}, {"abcdefg", "abcdefh", "gfedcba", "bacdefg", "bcdefg"},
            {"az", "za", "z", "zz", "azz"}, {"line", "name", "wide", "inch", "river"}};
        for (String[] names : five) {
            StringBuilder text = new StringBuilder();
            for (String name : names) {
                text.append("wall ").append(name).append(" 1;");
            }
            BagsRiver x = street(text.toString(), 5);
            for (int w = 0; w < 5; w++) {
                KIT.same("post to " + names[w], Kit.book(x, "post 1 " + (w + 1) + " " + names[w] + ";", 1), -1);
                KIT.same("posted to " + names[w], x.posted(2), w);
            }
        }
    }

    private static String lines(String sort, int many, String behind) {
        StringBuilder all = new StringBuilder();
        for (int i = 0; i < many; i++) {
            all.append(sort).append(' ').append((char) ('a' + i)).append(behind);
        }
        return all.toString();
    }

    private static String pairs(String sort, int many) {
        StringBuilder all = new StringBuilder();
        for (int i = 0; i < many; i++) {
            all.append(sort).append(' ').append(i * 5).append(" 7;");
        }
        return all.toString();
    }

    private static void fiveWalls() {
        KIT.quote("5 WALLS, 10 HOUSES, 6 DRAINS, 6 crests, 8 'gauge' at most");
        KIT.same("four", street(lines("wall", 4, " 2;"), 4).count(0), 4);
        BagsRiver x = street(lines("wall", 5, " 2;"), 5);
        KIT.same("five", x.count(0), 5);
        KIT.same("the last", x.wall(4, 0), 2);
        KIT.same("no sixth", x.wall(5, 0), -1);
        wrongStreet(lines("wall", 6, " 2;"), 45, 4);
    }

    private static void tenHouses() {
        KIT.quote("5 WALLS, 10 HOUSES, 6 DRAINS, 6 crests, 8 'gauge' at most");
        KIT.same("nine", street(lines("house", 9, " outside 2 3;"), 9).count(1), 9);
        BagsRiver x = street(lines("house", 10, " outside 2 3;"), 10);
        KIT.same("ten", x.count(1), 10);
        KIT.same("the last", x.house(9, 1), 2);
        KIT.same("no eleventh", Kit.caught(() -> x.house(10, 1)), Kit.THROWS);
        wrongStreet(lines("house", 11, " outside 2 3;"), 200, 4);
    }

    private static void sixDrains() {
        KIT.quote("5 WALLS, 10 HOUSES, 6 DRAINS, 6 crests, 8 'gauge' at most");
        KIT.same("five", street("wall w 1;" + lines("drain", 5, " w 2 3;"), 6).count(2), 5);
        BagsRiver x = street("wall w 1;" + lines("drain", 6, " w 2 3;"), 7);
        KIT.same("six", x.count(2), 6);
        KIT.same("the last", x.drain(5, 2), 3);
        KIT.same("no seventh", x.drain(6, 2), -1);
        wrongStreet("wall w 1;" + lines("drain", 7, " w 2 3;"), 9 + 6 * 14, 4);
    }

    private static void sixCrests() {
        KIT.quote("5 WALLS, 10 HOUSES, 6 DRAINS, 6 crests, 8 'gauge' at most");
        KIT.same("five", street(pairs("crest", 5), 5).count(3), 5);
        BagsRiver x = street(pairs("crest", 6), 6);
        KIT.same("six", x.count(3), 6);
        KIT.same("the last counts", x.sure(24, 0, 0) * 10 + x.sure(24, 0, 1), 56);
        wrongStreet(pairs("crest", 7), pairs("crest", 6).length(), 4);
    }

    private static void eightGauges() {
        KIT.quote("5 WALLS, 10 HOUSES, 6 DRAINS, 6 crests, 8 'gauge' at most");
        street(pairs("gauge", 7), 7);
        BagsRiver x = street(pairs("gauge", 7) + "gauge 40 9;", 8);
        x.hours(24);
        x.hours(15);
        KIT.same("ahead of the last", x.now(1), 7);
        x.hours(1);
        KIT.same("the last counts", x.now(1), 9);
        wrongStreet(pairs("gauge", 9), pairs("gauge", 8).length(), 4);
    }

    private static void asMuchOfAllAsThereMayBe() {
        KIT.quote("5 WALLS, 10 HOUSES, 6 DRAINS, 6 crests, 8 'gauge' at most");
        String all = FIVE_WALLS + "house f a 1 1;house g b 1 1;house h c 1 1;house i d 1 1;house j e 1 1;"
            + "house k outside 1 1;house l outside 1 1;house m outside 1 1;house n e 1 1;house o e 99 60;"
            + "drain p a 1 1;drain q b 1 1;drain r c 1 1;drain s d 1 1;drain t e 1 1;drain u e 60 40;"
            + pairs("crest", 6) + pairs("gauge", 8) + "people 60;sand 999;rate 20;";
        BagsRiver x = street(all, 38);
        KIT.all("counts", new int[] {x.count(0), x.count(1), x.count(2), x.count(3), x.count(4), x.count(5)},
            5, 10, 6, 6, 60, 20);
        KIT.same("HOUSES behind the last WALL", x.wall(4, 4), 16 + 256 + 512);
        KIT.same("DRAINS of the last WALL", x.wall(4, 5), 16 + 32);
        KIT.same("HOUSES behind the first WALL", x.wall(0, 4), 1);
        KIT.same("posted to the last DRAIN", x.post(30, 30, 15), 0);
        KIT.same("no seventh DRAIN", x.post(30, 30, 16), -1);
        for (String more : new String[] {"wall z 1;", "house z outside 1 1;", "drain z a 1 1;", "crest 60 1;", "gauge 47 1;"}) {
            wrongStreet(all + more, all.length(), 4);
        }
        for (String more : new String[] {"people 60;", "sand 999;", "rate 20;"}) {
            wrongStreet(all + more, all.length(), 3);
        }
    }

    private static void numberedFromZeroEach() {
        KIT.quote("WALLS, HOUSES, DRAINS numbered from 0 each.");
        BagsRiver x = street("wall a 2;house h outside 5 1;drain d a 7 3;wall b 3;drain e b 8 4;house g b 6 2;", 6);
        KIT.same("WALL 0", x.wall(0, 0), 2);
        KIT.same("WALL 1", x.wall(1, 0), 3);
        KIT.same("HOUSE 0", x.house(0, 1), 5);
        KIT.same("HOUSE 1", x.house(1, 1), 6);
        KIT.same("DRAIN 0", x.drain(0, 1), 7);
        KIT.same("DRAIN 1", x.drain(1, 1), 8);
        KIT.same("HOUSE 1 is behind WALL 1", x.house(1, 0), 1);
        KIT.same("DRAIN 1 is of WALL 1", x.drain(1, 0), 1);
        KIT.same("none below 0", x.wall(-1, 0) + x.drain(-1, 0), -2);
    }

    private static void bookOf400Bytes() {
        KIT.quote("A BOOK is a text of at most 400 bytes: { LINE ; }, 40 at most");
        book(Kit.padded("hour 1;", 399), -1);
        book(Kit.padded("hour 1;", 400), -1);
        wrongBook(Kit.padded("hour 1;", 401), 400, 1);
        wrongBook(Kit.padded("hour 1;", 940), 400, 1);
        book(Kit.padded("", 393) + "hour 1;", -1);
        wrongBook(Kit.padded("", 394) + "hour 1;", 400, 1);
        book(Kit.padded("", 400), -1);
        wrongBook(Kit.padded("", 401), 400, 1);
    }

    private static void bookOf40Lines() {
        KIT.quote("A BOOK is a text of at most 400 bytes: { LINE ; }, 40 at most");
        book("", -1);
        book(" \n", -1);
        wrongBook(";", 0, 1);
        wrongBook("hour 1", 6, 1);
        wrongBook("hour 1 hour 1;", 7, 1);
        book(Kit.repeat("hour 1;", 39), -1);
        book(Kit.repeat("hour 1;", 40), -1);
        wrongBook(Kit.repeat("hour 1;", 41), 280, 4);
        wrongBook(Kit.repeat("hour 1;", 40) + " quit", 281, 4);
        BagsRiver x = Kit.on("");
        KIT.same("all 40 are lived", Kit.book(x, Kit.repeat("hour 1;", 40), 1), -1);
        KIT.same("LINES", x.told(1), 40);
        KIT.same("HOUR", x.now(0), 40);
    }

    private static void bookPost() {
        KIT.quote("'post' F C ( WALL | DRAIN ) (0 to 60 each)");
        book("post 0 1 left;post 0 0 left;", -1);
        wrongBook("post 61 0 left;", 5, 2);
        wrongBook("post 0 61 left;", 7, 2);
        wrongBook("post 999 0 left;", 5, 2);
        book("post 60 0 left;", 0);
        book("post 0 60 sink;", 0);
        BagsRiver x = Kit.on("people 60;wall w 1;drain d w 1 1;");
        KIT.same("the most who fill", Kit.book(x, "post 60 0 w;", 1), -1);
        KIT.same("F", x.posted(0), 60);
        KIT.same("the most who carry", Kit.book(x, "post 0 60 d;", 1), -1);
        KIT.same("C", x.posted(1), 60);
        KIT.same("where to", x.posted(2), 10);
        BagsRiver six = Kit.on("wall w 1;" + lines("drain", 6, " w 1 1;"));
        for (int d = 0; d < 6; d++) {
            KIT.same("to a DRAIN", Kit.book(six, "post 1 1 " + (char) ('a' + d) + ";", 1), -1);
            KIT.same("where to", six.posted(2), 10 + d);
        }
        wrongBook("post 1 left;", 7, 1);
        wrongBook("post left 1 1;", 5, 1);
        wrongBook("post 1 1 1;", 9, 1);
        wrongBook("post 1 1;", 8, 1);
    }

    private static void bookHour() {
        KIT.quote("'hour' N (1 to 24)");
        wrongBook("hour 0;", 5, 2);
        book("hour 1;", -1);
        book("hour 24;", -1);
        wrongBook("hour 25;", 5, 2);
        wrongBook("hour 999;", 5, 2);
        wrongBook("hour;", 4, 1);
    }

    private static void bookNames() {
        KIT.quote("'quit' WALL | 'up' HOUSE");
        book("quit left;quit right;up mill;up shop;up inn;up hut;up hall;post 1 1 sink;post 1 1 right;", -1);
        wrongBook("quit mill;", 5, 3);
        wrongBook("quit sink;", 5, 3);
        wrongBook("quit lef;", 5, 3);
        wrongBook("up left;", 3, 3);
        wrongBook("up sink;", 3, 3);
        wrongBook("up halls;", 3, 3);
        wrongBook("post 1 1 hall;", 9, 3);
        wrongBook("post 1 1 sinks;", 9, 3);
        BagsRiver none = new BagsRiver();
        KIT.same("a STREET without WALLS", Kit.book(none, "quit left;", 0), -7);
        KIT.same("kind", none.fault(), 3);
        KIT.same("a STREET without HOUSES", Kit.book(none, "up mill;", 0), -5);
        KIT.same("kind", none.fault(), 3);
    }

    private static void sentenceOf200Bytes() {
        KIT.quote("A SENTENCE is a text of at most 200 bytes: COND: ALL { 'or' ALL }.");
        sentence(Kit.padded("safe", 199), 1);
        sentence(Kit.padded("safe", 200), 1);
        wrongSentence(Kit.padded("safe", 201), 200, 1);
        wrongSentence(Kit.padded("safe", 940), 200, 1);
        sentence(Kit.padded("", 196) + "safe", 1);
        wrongSentence(Kit.padded("", 197) + "safe", 200, 1);
        wrongSentence(Kit.padded("", 200), 200, 1);
        wrongSentence(Kit.padded("", 201), 200, 1);
    }

    private static void sentenceOfNothing() {
        KIT.quote("A SENTENCE is a text of at most 200 bytes: COND: ALL { 'or' ALL }.");
        wrongSentence("", 0, 1);
        wrongSentence(" ", 1, 1);
        wrongSentence("()", 1, 1);
        wrongSentence("or safe", 0, 1);
        wrongSentence("and safe", 0, 1);
        wrongSentence("safe or", 7, 1);
        wrongSentence("safe and", 8, 1);
        wrongSentence("safe or or safe", 8, 1);
        wrongSentence("safe and or safe", 9, 1);
        wrongSentence("safe safe", 5, 1);
        wrongSentence("safe not safe", 5, 1);
        wrongSentence("safe (safe)", 5, 1);
        sentence("safe or safe", 2);
        sentence("safe and safe", 2);
    }

    private static void said(String text, int bits) {
        BagsRiver x = Kit.on(Kit.STREET);
        KIT.yes(text + " is one", Kit.sentence(x, text) > 0);
        KIT.same(text, Kit.saidBits(x), bits);
    }

    private static void sentenceAllsAndOnes() {
        KIT.quote("ALL: ONE { 'and' ONE }. ONE: 'not' ONE | ( COND )");
        said("number=0 or number=1 and number=2", 1);
        said("(number=0 or number=1) and number=2", 0);
        said("number=2 and number=1 or number=0", 1);
        said("number=2 and (number=1 or number=2)", 4);
        said("not number=0 and number<2", 2);
        said("not (number=0 and number<2)", 30);
        said("not number=0 or number<2", 31);
        said("not (number=0 or number<2)", 28);
        said("not not number=0", 1);
        said("((number=0))", 1);
        said("number=0 or number=1 or number=4", 19);
        said("number>0 and number<4 and not number=2", 10);
        wrongSentence("(number=0", 9, 1);
        wrongSentence("number=0)", 8, 1);
        wrongSentence("(number=0))", 10, 1);
        wrongSentence("not", 3, 1);
        wrongSentence("not or safe", 4, 1);
    }

    private static void sentenceNumbers() {
        KIT.quote("( 'worth' | 'floor' | 'number' ) SIGN NUMBER (its number)");
        said("worth<10", 0);
        said("worth<11", 16);
        said("worth=10", 16);
        said("worth>9", 31);
        said("worth>50", 0);
        said("worth>49", 4);
        said("floor<4", 0);
        said("floor<5", 4);
        said("floor=9", 2);
        said("floor>8", 2);
        said("floor>9", 0);
        said("number<0", 0);
        said("number<1", 1);
        said("number=4", 16);
        said("number=5", 0);
        said("number>3", 16);
        said("number>4", 0);
        said("number<999", 31);
        said("number>000", 30);
        wrongSentence("worth", 5, 1);
        wrongSentence("worth 5", 6, 1);
        wrongSentence("worth<", 6, 1);
        wrongSentence("worth<safe", 6, 1);
        wrongSentence("worth<=5", 6, 1);
        wrongSentence("worth 5<", 6, 1);
    }

    private static void sentenceNames() {
        KIT.quote("'behind' WALL");
        said("behind left", 3);
        said("behind right", 4);
        wrongSentence("behind", 6, 1);
        wrongSentence("behind mill", 7, 3);
        wrongSentence("behind sink", 7, 3);
        wrongSentence("behind lefts", 7, 3);
        wrongSentence("behind behind", 7, 1);
        BagsRiver none = new BagsRiver();
        KIT.same("a STREET without WALLS", Kit.sentence(none, "behind left"), -8);
        KIT.same("kind", none.fault(), 3);
        KIT.same("a STREET without HOUSES", Kit.sentence(none, "not safe"), 2);
        KIT.same("it may be said of none", none.said(-1), 0);
        KIT.same("none such", none.said(0), -1);
    }

    private static void twentyOnes() {
        KIT.quote("20 ONES, 8 within one another.");
        sentence("safe" + Kit.repeat(" or safe", 18), 19);
        String twenty = "safe" + Kit.repeat(" or safe", 19);
        sentence(twenty, 20);
        sentence("(" + "safe" + Kit.repeat(" and safe", 18) + ")", 20);
        wrongSentence(twenty + " or safe", twenty.length() + 4, 4);
        wrongSentence(twenty + " or (safe)", twenty.length() + 4, 4);
        wrongSentence(twenty + " or not safe", twenty.length() + 4, 4);
        wrongSentence(twenty + " or worth<5", twenty.length() + 4, 4);
        wrongSentence(twenty + " or behind nobody", twenty.length() + 4, 4);
        said("upped" + Kit.repeat(" or upped", 17) + " or number=1 or number=3", 10);
        said("(safe" + Kit.repeat(" and safe", 17) + " and number>1)", 28);
        said(Kit.repeat("not number=2 and ", 9) + "not number=4", 11);
        String nineteen = "safe" + Kit.repeat(" or safe", 18);
        sentence(nineteen + " or upped", 20);
        wrongSentence(nineteen + " or (upped", nineteen.length() + 5, 4);
        wrongSentence(nineteen + " or not upped", nineteen.length() + 8, 4);
        wrongSentence("(" + twenty + ")", 1 + nineteen.length() + 4, 4);
        sentence(Kit.repeat("not safe and ", 9) + "not safe", 20);
        wrongSentence(Kit.repeat("not safe and ", 10) + "safe", 130, 4);
        sentence(Kit.repeat("(safe)or", 9) + "(safe)", 20);
        wrongSentence(Kit.repeat("(safe)or", 10) + "(safe)", 80, 4);
    }

    private static void eightWithin() {
        KIT.quote("20 ONES, 8 within one another.");
        for (int n = 1; n <= 7; n++) {
            sentence(Kit.repeat("not ", n) + "safe", n + 1);
            sentence(Kit.repeat("(", n) + "safe" + Kit.repeat(")", n), n + 1);
        }
        for (int n = 8; n <= 20; n++) {
            wrongSentence(Kit.repeat("not ", n) + "safe", 32, 4);
            wrongSentence(Kit.repeat("(", n) + "safe" + Kit.repeat(")", n), 8, 4);
        }
        sentence("not(not(not(not safe)))or not(not(not(not safe)))", 16);
        wrongSentence("not(not(not(not(safe))))", 16, 4);
        sentence("(((((((safe)))))))and(((((((safe)))))))", 16);
        wrongSentence("(((((((safe)))))))and((((((((safe))))))))", 29, 4);
        sentence("(((((((safe and safe or safe)))))))", 10);
        wrongSentence("(((((((safe and not safe)))))))", 20, 4);
        wrongSentence(Kit.repeat("(", 8) + "worth", 8, 4);
    }

    private static void faultAtTheFirstByte() {
        KIT.quote("1 no TOKEN, or one that can't come (at it");
        for (int c = 0; c < 256; c++) {
            if (c != 32 && c != 10) {
                wrongStreet("" + (char) c, 0, 1);
                wrongBook("" + (char) c, 0, 1);
                wrongSentence("" + (char) c, c == '(' ? 1 : 0, 1);
            }
        }
        for (String word : TOLD_HERE) {
            wrongStreet(word, FIRST_OF_STREET.contains(word) ? word.length() : 0, 1);
            wrongBook(word, FIRST_OF_BOOK.contains(word) ? word.length() : 0, 1);
        }
        wrongStreet("left 1;", 0, 1);
        wrongBook("left 1;", 0, 1);
        wrongSentence("left", 0, 1);
        wrongStreet("1", 0, 1);
    }

    private static void faultAtTheEnd() {
        KIT.quote("the end: how many bytes there are");
        String line = "wall w 1";
        for (int n = 1; n <= line.length(); n++) {
            boolean word = n >= 4;
            wrongStreet(line.substring(0, n), word ? n : 0, 1);
            wrongStreet(line.substring(0, n) + "  ", word ? n + 2 : 0, 1);
        }
        wrongStreet("house h outside 5 5", 19, 1);
        wrongStreet("house h outside 5", 17, 1);
        wrongStreet("house h outside", 15, 1);
        wrongStreet("house h", 7, 1);
        wrongStreet("wall w 1;drain d w 5 5", 22, 1);
        wrongStreet("wall w 1;drain d w 5", 20, 1);
        wrongStreet("wall w 1;drain d w", 18, 1);
        wrongStreet("wall w 1;drain d", 16, 1);
        wrongStreet("crest 5 5", 9, 1);
        wrongStreet("crest 5", 7, 1);
        wrongStreet("crest", 5, 1);
        wrongStreet("gauge 5 5", 9, 1);
        wrongStreet("gauge 5\n", 8, 1);
        wrongStreet("people 5", 8, 1);
        wrongStreet("people", 6, 1);
        wrongStreet("sand 5", 6, 1);
        wrongStreet("sand", 4, 1);
        wrongStreet("rate 5", 6, 1);
        wrongStreet("rate", 4, 1);
        wrongBook("post 1 1 left", 13, 1);
        wrongBook("post 1 1", 8, 1);
        wrongBook("post 1", 6, 1);
        wrongBook("post", 4, 1);
        wrongBook("quit left", 9, 1);
        wrongBook("quit", 4, 1);
        wrongBook("up mill", 7, 1);
        wrongBook("up", 2, 1);
        wrongBook("hour 1", 6, 1);
        wrongBook("hour ", 5, 1);
        wrongSentence("(", 1, 1);
        wrongSentence("(safe", 5, 1);
        wrongSentence("safe or ", 8, 1);
        wrongSentence("behind", 6, 1);
        wrongSentence("worth", 5, 1);
        wrongSentence("worth<", 6, 1);
    }

    private static void faultBehindTheMostBytes() {
        KIT.quote("the most bytes told, if there are more and no FAULT is ahead: TOKENS that begin ahead of it are read whole");
        wrongStreet(Kit.padded("wall w 0;", 940), 7, 2);
        wrongStreet(Kit.padded("wall w 1;", 898) + "x  ", 898, 1);
        wrongStreet(Kit.padded("wall w 1;", 899) + "x  ", 899, 1);
        wrongStreet(Kit.padded("wall w 1;", 900) + "x  ", 900, 1);
        wrongStreet(Kit.padded("wall w 1;", 899) + "wallx ", 899, 1);
        wrongStreet(Kit.padded("wall w 1;", 899) + "wall x", 900, 1);
        wrongStreet(Kit.padded("wall", 899) + "abcdefg 1;", 900, 1);
        wrongStreet(Kit.padded("wall", 899) + "abcdefgh 1;", 899, 1);
        wrongStreet(Kit.padded("wall", 899) + "wall 1;", 899, 1);
        wrongStreet(Kit.padded("wall w", 899) + "20;", 900, 1);
        wrongStreet(Kit.padded("wall w", 899) + "21;", 899, 2);
        wrongStreet(Kit.padded("wall w", 899) + "0021;", 899, 1);
        wrongStreet(Kit.padded("wall w", 900) + "21;", 900, 1);
        wrongStreet(Kit.padded("wall w 1;wall", 899) + "w 1;", 899, 3);
        wrongStreet(Kit.padded("wall w 1;wall", 899) + "ww 1;", 900, 1);
        wrongStreet(Kit.padded("wall w 1;wall", 900) + "w 1;", 900, 1);
        wrongStreet(Kit.padded(FIVE_WALLS, 899) + "wall f 1;", 899, 4);
        wrongStreet(Kit.padded(FIVE_WALLS, 900) + "wall f 1;", 900, 1);
        wrongBook(Kit.padded("hour", 399) + "24;", 400, 1);
        wrongBook(Kit.padded("hour", 399) + "25;", 399, 2);
        wrongBook(Kit.padded("hour", 400) + "25;", 400, 1);
        wrongBook(Kit.padded("quit", 399) + "left;", 400, 1);
        wrongBook(Kit.padded("quit", 399) + "nobody;", 399, 3);
        wrongBook(Kit.padded("quit", 399) + "nobodyat;", 399, 1);
        wrongBook(Kit.padded(Kit.repeat("hour 1;", 40), 399) + "hour 1;", 399, 4);
        wrongBook(Kit.padded(Kit.repeat("hour 1;", 40), 400) + "hour 1;", 400, 1);
        wrongSentence(Kit.padded("safe and", 199) + "safe", 200, 1);
        wrongSentence(Kit.padded("safe and", 199) + "safety", 199, 1);
        wrongSentence(Kit.padded("safe", 199) + "or safe", 200, 1);
        wrongSentence(Kit.padded("safe", 199) + "safe", 199, 1);
        wrongSentence(Kit.padded("behind", 199) + "left", 200, 1);
        wrongSentence(Kit.padded("behind", 199) + "right", 200, 1);
        wrongSentence(Kit.padded("behind", 199) + "lefts", 199, 3);
        wrongSentence(Kit.padded("safe" + Kit.repeat(" or safe", 19) + " or", 199) + "safe", 199, 4);
        wrongSentence(Kit.padded("(safe", 199) + ") ", 200, 1);
        sentence(Kit.padded("(safe", 199) + ")", 2);
    }

    private static void faultOfANumber() {
        KIT.quote("2 a NUMBER that is not as told (at it)");
        wrongStreet("wall w 21", 7, 2);
        wrongStreet("wall w 021", 7, 2);
        wrongStreet("wall  w  21 ;", 9, 2);
        wrongStreet("wall w 1;wall v 0", 16, 2);
        wrongStreet("wall w 0 1;", 7, 2);
        wrongStreet("people 61", 7, 2);
        wrongBook("hour 1;hour 25", 12, 2);
        wrongBook("post 0 61", 7, 2);
        wrongBook("post\n61", 5, 2);
    }

    private static void faultOfAName() {
        KIT.quote("3 a NAME told twice, not told, or of another sort");
        wrongStreet("wall w 1;wall w", 14, 3);
        wrongStreet("wall w 1;wall\nw 99;", 14, 3);
        wrongStreet("house h w", 8, 3);
        wrongStreet("wall w 1;house h v", 17, 3);
        wrongStreet("house h outside 1 1;house g h", 28, 3);
        wrongStreet("wall w 1;drain d w 1 1;house h d", 31, 3);
        wrongStreet("wall w 1;drain d w 1 1;drain e d", 31, 3);
        wrongStreet("house h outside 1 1;drain d h", 28, 3);
        wrongStreet("house h w 1 1;wall w 1;", 8, 3);
        wrongBook("quit nobody", 5, 3);
        wrongBook("up left", 3, 3);
        wrongBook("post 1 1 mill", 9, 3);
        wrongSentence("behind nobody", 7, 3);
        wrongSentence("behind mill and", 7, 3);
        wrongSentence("not behind sink", 11, 3);
    }

    private static void faultOfWhatIsToldAgain() {
        KIT.quote("what is told once told again (at the WORD; of 'crest' at INCH, of 'gauge' at HOUR)");
        wrongStreet("people 5;people", 9, 3);
        wrongStreet("people 5; people 0;", 10, 3);
        wrongStreet("sand 5;sand", 7, 3);
        wrongStreet("sand 5;rate 5;sand 6;", 14, 3);
        wrongStreet("rate 5;rate", 7, 3);
        wrongStreet("crest 5 1;crest 5", 16, 3);
        wrongStreet("crest 5 1;crest 05 2;", 16, 3);
        wrongStreet("crest 0 1;crest 60 1;crest 0 2;", 27, 3);
        wrongStreet("gauge 5 1;gauge 5", 16, 3);
        wrongStreet("gauge 47 1;gauge 0 1;gauge 47 1;", 27, 3);
        street("crest 5 1;gauge 5 1;", 2);
        street("crest 5 1;crest 6 1;gauge 5 1;gauge 6 1;", 4);
        street("crest 5 6;crest 6 5;gauge 5 6;gauge 6 5;", 4);
    }

    private static void faultOfOneMore() {
        KIT.quote("4 one more than there may be of a sort, a 41st LINE of a BOOK (at the LINE's first WORD), a 21st ONE, "
            + "a ninth within (at its first TOKEN).");
        wrongStreet(FIVE_WALLS + "wall", 5 * WALL_BYTES, 4);
        wrongStreet(FIVE_WALLS + " \nwall;", 5 * WALL_BYTES + 2, 4);
        wrongStreet(FIVE_WALLS + "wall a 1;", 5 * WALL_BYTES, 4);
        wrongStreet(FIVE_WALLS + "walls", 5 * WALL_BYTES, 1);
        wrongStreet(lines("house", 10, " outside 1 1;") + "house", 200, 4);
        wrongStreet("wall w 1;" + lines("drain", 6, " w 1 1;") + "drain", 9 + 6 * 14, 4);
        wrongStreet(pairs("crest", 6) + "crest", pairs("crest", 6).length(), 4);
        wrongStreet(pairs("crest", 6) + "crest 0 1;", pairs("crest", 6).length(), 4);
        wrongStreet(pairs("gauge", 8) + "gauge", pairs("gauge", 8).length(), 4);
        wrongStreet(pairs("gauge", 8) + "gauge 99 1;", pairs("gauge", 8).length(), 4);
        String forty = Kit.repeat("hour 1;", 40);
        for (String word : new String[] {"post", "quit", "up", "hour"}) {
            wrongBook(forty + word, 280, 4);
            wrongBook(forty + "\n" + word + ";", 281, 4);
        }
        wrongBook(forty + "wall", 280, 1);
    }

    private static void theFirstAlongTheText() {
        KIT.quote("FAULTS, the first along the text");
        wrongStreet("wall w 0;wall w 1;", 7, 2);
        wrongStreet("wall w 1;wall w 0;", 14, 3);
        wrongStreet("wall w 1;wall v 0;wall w 1;", 16, 2);
        wrongStreet("wall W 0;", 5, 1);
        wrongStreet("wall w 0W;", 7, 2);
        wrongStreet("wall w 1W;", 8, 1);
        wrongStreet("wall w 0 W", 7, 2);
        wrongStreet("crest 61 0;", 6, 2);
        wrongStreet("crest 5 1;crest 5 0;", 16, 3);
        wrongStreet("gauge 48 61;", 6, 2);
        wrongStreet("people 0;people 0;", 7, 2);
        wrongStreet("people 1;people 0;", 9, 3);
        wrongStreet("house h w 0 61;", 8, 3);
        wrongStreet("wall w 1;house w v 1 1;", 15, 3);
        wrongStreet(FIVE_WALLS + "wall a 0;", 45, 4);
        wrongStreet("wall a 0;" + FIVE_WALLS, 7, 2);
        wrongStreet("house h outside 0 61;", 16, 2);
        wrongStreet("house h outside 1 61", 18, 2);
        wrongBook("post 61 61 nobody;", 5, 2);
        wrongBook("post 1 61 nobody;", 7, 2);
        wrongBook("post 1 1 nobody", 9, 3);
        wrongBook("quit nobody;hour 0;", 5, 3);
        wrongBook("hour 0;quit nobody;", 5, 2);
        wrongBook(Kit.repeat("hour 1;", 39) + "hour 0;hour 1;", 278, 2);
        wrongSentence("behind nobody or", 7, 3);
        wrongSentence("or behind nobody", 0, 1);
        wrongSentence("(behind nobody", 8, 3);
        wrongSentence(Kit.repeat("not ", 8) + "behind nobody", 32, 4);
        wrongSentence(Kit.repeat("not ", 7) + "behind nobody", 35, 3);
        wrongSentence("worth<1000 or behind nobody", 6, 1);
    }

    private static void ofOneTokenTheLeast() {
        KIT.quote("FAULTS, the first along the text, of one TOKEN the least");
        wrongStreet("wall w 1;wall wall 1;", 14, 1);
        wrongStreet("wall w 1;wall 0 1;", 14, 1);
        wrongStreet("wall w 1000;", 7, 1);
        wrongStreet("wall 99 1;", 5, 1);
        wrongStreet("wall w 1;house h 99 1;", 17, 1);
        wrongStreet("wall w 1;house h house 1 1;", 17, 1);
        wrongStreet(FIVE_WALLS + "quit f 1;", 45, 1);
        wrongStreet("crest 5 1;crest 5a 1;", 16, 1);
        String forty = Kit.repeat("hour 1;", 40);
        wrongBook(forty + "hours", 280, 1);
        wrongBook(forty + ";", 280, 1);
        wrongBook(forty + "0", 280, 1);
        wrongBook(forty + "?", 280, 1);
        book(forty, -1);
        String twenty = "safe" + Kit.repeat(" or safe", 19);
        for (String next : new String[] {"", ")", "or", "left", "0", "?", ";", "safely"}) {
            wrongSentence(twenty + " or " + next, twenty.length() + 4, 1);
            wrongSentence(Kit.repeat("not ", 8) + next, 32, 1);
        }
        wrongSentence(Kit.repeat("not ", 8) + "(", 32, 4);
        wrongSentence("behind safe", 7, 1);
    }
}
