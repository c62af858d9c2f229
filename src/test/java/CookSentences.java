/** The sentences of the document on reckoning, casts and cooking: promises 9, 10, 14 and 21 to 24. */
final class CookSentences extends Sentences {
    /** 9999 drams on one spoon, in 7 tokens. */
    private static final String NINES = "9999*99+99+";
    /** 1000001 drams by a product. */
    private static final String MORE = "9902+9999*99+1+*";
    /** -1000001 drams by a product. */
    private static final String FEWER = "9902+009999*99+1+-*";

    CookSentences(Check check, Document document) {
        super(check, document);
    }

    @Override
    void all() {
        reckonedAsTheyAre();
        heldFromDrams();
        heldSums();
        heldProducts();
        castToBroth();
        castToDrams();
        castToWhatItIs();
        oneAfterTheOther();
        reckonedTogether();
        castWhenCooked();
        storedInTheOtherKind();
        reckonedTooMany();
        storedTooMany();
        cook();
        cookReturns();
        cookOutside();
        cookRefused();
        cookAll();
        cookAllInOrder();
        cookAllRefused();
        numberOutside();
        numberOfNoWhat();
        numbers();
        would();
        wouldOfMostSpoons();
        wouldOutside();
        wouldBoilOver();
        wouldAgain();
        wouldAgainOutside();
        wouldAgainBoilOver();
        boils();
        boilsOutside();
        boilsNot();
        lasts();
        lastsOutside();
        lastsUntil();
        lastsAtMost50();
    }

    /** The cauldron a of drams, and b and c of broth. */
    private void setUp() {
        x.drams(-99, 99);
        x.broth();
        x.broth();
    }

    private void gives(String text, float cups) {
        put(text);
        x.cook(0);
        is(text, Float.floatToIntBits(cups), () -> x.bits(1));
    }

    private void becomes(String text, int due) {
        put(text);
        is(text, due, () -> x.would(0, 0));
        is(text + " again", due, () -> x.wouldAgain(0, 0));
    }

    private void reckonedAsTheyAre() {
        term(9, "Spells", "Drams are reckoned as integers, broth as floats");
        setUp();
        becomes("077*08-=a", 41);
        becomes("9999*99*9999*99*-7+=a", 7);
        x.ladle(2, 10);
        gives("cc*c*=b", 0.1f * 0.1f * 0.1f);
        gives("cc+c+=b", 0.1f + 0.1f + 0.1f);
        gives("7~c-c-=b", 7.0f - 0.1f - 0.1f);
        gives("cc-=b", 0.0f);
        gives("0~c-0~*=b", -0.0f);
    }

    private void heldFromDrams() {
        term(9, "Spells", "; broth that is reckoned, or cast from drams, is held from -9999.0f to 9999.0f: if it would"
                + " be less or more, it is the one or the other of these.");
        setUp();
        gives(NINES + "~=b", 9999.0f);
        gives(NINES + "1-~=b", 9998.0f);
        gives(NINES + "1+~=b", 9999.0f);
        gives(NINES + "1+~1~-=b", 9998.0f);
        gives(MILLION + "~=b", 9999.0f);
        gives("00" + NINES + "-~=b", -9999.0f);
        gives("00" + NINES + "-1+~=b", -9998.0f);
        gives("00" + NINES + "-1-~=b", -9999.0f);
        gives("00" + NINES + "-1-~1~+=b", -9998.0f);
        gives("00" + MILLION + "-~=b", -9999.0f);
    }

    private void heldSums() {
        term(9, "Spells", "broth that is reckoned, or cast from drams, is held from -9999.0f to 9999.0f");
        setUp();
        put(NINES + "~=c");
        x.cook(0);
        gives("c0~+=b", 9999.0f);
        gives("c1~+=b", 9999.0f);
        gives("c1~+1~-=b", 9998.0f);
        gives("cc+c-=b", 0.0f);
        gives("c0~1~--=b", 9999.0f);
        gives("c0~1~--1~-=b", 9998.0f);
        gives("0~c-=b", -9999.0f);
        gives("0~c-1~-=b", -9999.0f);
        gives("0~c-1~-1~+=b", -9998.0f);
        gives("0~c-c-c+=b", 0.0f);
        gives("0~1~-c-1~+=b", -9998.0f);
    }

    private void heldProducts() {
        term(9, "Spells", ": if it would be less or more, it is the one or the other of these.");
        setUp();
        x.ladle(2, 9999);
        gives("cc*=b", 99.99f * 99.99f);
        gives("c99~1~+*=b", 9999.0f);
        gives("c99~2~+*=b", 9999.0f);
        gives("c99~2~+*1~-=b", 9998.0f);
        gives("0~c99~2~+*-=b", -9999.0f);
        gives("c0~99~-2~-*=b", -9999.0f);
        gives("c0~99~-2~-*1~+=b", -9998.0f);
        gives("c0~99~-1~-*1~+=b", -99.99f * 100.0f + 1.0f);
    }

    private void castToBroth() {
        term(9, "Casts", "Drams cast to broth are converted to float.");
        setUp();
        gives("0~=b", 0.0f);
        gives("1~=b", 1.0f);
        gives("99~=b", 99.0f);
        x.pour(0, -99);
        gives("a~=b", -99.0f);
        gives("9999*~=b", 9801.0f);
    }

    private void castToDrams() {
        term(9, "Casts", "Broth cast to drams is the float, cut to an integer, but at least -99 and at most 99.");
        setUp();
        put("b!=a");
        int[][] rows = {{9899, 98}, {9900, 99}, {9999, 99}, {99, 0}, {100, 1}, {0, 0}, {-99, 0}, {-100, -1},
            {-9899, -98}, {-9900, -99}, {-9999, -99}};
        for (int[] row : rows) {
            x.ladle(1, row[0]);
            is("hundredths " + row[0], row[1], () -> x.would(0, 0));
        }
        becomes("99~1~+!=a", 99);
        becomes("99~98~+!=a", 99);
        becomes(NINES + "~!=a", 99);
        becomes("0~99~-1~-!=a", -99);
        becomes("00" + NINES + "-~!=a", -99);
        becomes(NINES + "~!1-=a", 98);
    }

    private void castToWhatItIs() {
        term(18, "Casts", "To cast drams to drams, or broth to broth, is a fault of types.");
        setUp();
        String[] texts = {"7!=a", "a!=a", "b~=b", "7~~=b", "b!!=a", "7~!~~=b", "ab~+!=a"};
        int[] places = {1, 1, 1, 2, 2, 4, 2};
        for (int row = 0; row < texts.length; row++) {
            int place = places[row];
            put(texts[row]);
            is("does not type", false, () -> x.types(0));
            is("does not type again", false, () -> x.typesAgain(0));
            is("by its place", place, () -> x.fault(0));
        }
        put("b!~!~=b");
        is("by turns it is none", true, () -> x.types(0));
    }

    private void oneAfterTheOther() {
        term(9, "Cooking", "The tokens are done one after the other.");
        setUp();
        becomes("1=aa1+=a", 2);
        becomes("a1+1=aa+=a", 2);
        becomes("7a-2=a=a", 7);
        textBoilsOver("7~~!!=b", 2, 7, -1);
        textBoilsOver("7=a7!=a99a+=a", 3, 7, -1);
        textBoilsOver("7=a99a+=a7!=a", 5, 3, 106);
    }

    private void reckonedTogether() {
        term(9, "Cooking", "A spell boils over by a token if by it drams and broth would be reckoned together");
        setUp();
        textBoilsOver("ab+=a", 2, 7, -1);
        textBoilsOver("ba+=b", 2, 7, -1);
        textBoilsOver("ab-=a", 2, 7, -1);
        textBoilsOver("ba-=b", 2, 7, -1);
        textBoilsOver("ab*=a", 2, 7, -1);
        textBoilsOver("ba*=b", 2, 7, -1);
        textBoilsOver("a~7-=b", 3, 7, -1);
        put("7b!+a-=a");
        noElement("drams with drams", () -> x.boils(0));
        put("7~b+c-b*=b");
        noElement("broth with broth", () -> x.boils(0));
    }

    private void castWhenCooked() {
        term(9, "Cooking", ", something would be cast to what it is");
        setUp();
        textBoilsOver("7!=a", 1, 7, -1);
        textBoilsOver("b~=b", 1, 7, -1);
        textBoilsOver("7~~=b", 2, 7, -1);
        textBoilsOver("b!!=a", 2, 7, -1);
        put("b!~!=a");
        noElement("by turns it does not", () -> x.boils(0));
    }

    private void storedInTheOtherKind() {
        term(9, "Cooking", ", or stored in a cauldron of the other kind");
        setUp();
        textBoilsOver("7=b", 1, 7, 1);
        textBoilsOver("7=c", 1, 7, 2);
        textBoilsOver("b=a", 1, 7, 0);
        textBoilsOver("7=ab=ca=b", 5, 7, 1);
        textBoilsOver("9999*=b", 3, 7, 1);
        put("7=ab=ca~=b");
        noElement("in those of the same kind", () -> x.boils(0));
    }

    private void reckonedTooMany() {
        term(9, "Cooking", ", if drams that are reckoned would be below -1000000 or above 1000000");
        setUp();
        gives(MILLION + "~=b", 9999.0f);
        gives(MILLION + "0+0-1*~=b", 9999.0f);
        gives("00" + MILLION + "-0+0-1*~=b", -9999.0f);
        textBoilsOver(MILLION + "1+~=b", 12, 8, 1);
        textBoilsOver("00" + MILLION + "-1-~=b", 14, 8, -1);
        anew();
        setUp();
        textBoilsOver(MORE + "~=b", 10, 8, 1);
        textBoilsOver(FEWER + "~=b", 12, 8, -1);
        gives(MORE.replace("1+*", "0+*") + "~=b", 9999.0f);
        gives(FEWER.replace("1+-*", "0+-*") + "~=b", -9999.0f);
    }

    private void storedTooMany() {
        term(9, "Cooking", ", or if drams would be stored in a cauldron that does not hold them.");
        x.drams(-9, 20);
        put("20=a");
        noElement("the highest", () -> x.boils(0));
        textBoilsOver("21=a", 1, 3, 21);
        put("0009-=a");
        noElement("the lowest", () -> x.boils(0));
        textBoilsOver("0010-=a", 3, 3, -10);
        textBoilsOver("20=a21=a", 3, 3, 21);
        textBoilsOver(MILLION + "=a", 11, 3, 1000000);
        textBoilsOver("00" + MILLION + "-=a", 13, 3, -1000000);
    }

    private void cook() {
        promise(9, "Cooks a spell, whether it types or not.");
        setUp();
        put("a1+=a");
        is("it does not type", false, () -> x.types(0));
        is("it is cooked", 1, () -> x.cook(0));
        is("which stores", 1, () -> x.cauldronOf(0, 3));
        put("1a+=aa~=b");
        x.pour(0, 97);
        is("it may be cooked", 2, () -> x.cook(0));
        is("as it does not boil over now", 98, () -> x.cauldronOf(0, 3));
        is("by any token of it", 98.0f, () -> x.cups(1));
        put("7=a");
        is("one that types", true, () -> x.types(0));
        is("is cooked, too", 1, () -> x.cook(0));
        is("which stores", 7, () -> x.cauldronOf(0, 3));
    }

    private void cookReturns() {
        promise(9, "Returns how many cauldrons have something else in them then.");
        for (int cauldron = 0; cauldron < 6; cauldron++) {
            x.drams(-9, 9);
        }
        write("7=a7=b7=c7=d7=e7=f");
        is("all of six", 6, () -> x.cook(0));
        is("none of six", 0, () -> x.cook(0));
        x.pour(5, 6);
        is("the last one", 1, () -> x.cook(0));
        x.pour(0, 6);
        x.pour(3, 6);
        is("two", 2, () -> x.cook(0));
        write("1=a7=a");
        is("what is stored at the end counts", 0, () -> x.cook(1));
        write("1=a2=a");
        is("a cauldron counts once", 1, () -> x.cook(2));
        is("each time is a change", 6, () -> x.account(9));
    }

    private void cookOutside() {
        promise(9, "Throws `IndexOutOfBoundsException` if there is no such spell");
        outside("none at all", () -> x.cook(0));
        x.drams(0, 9);
        write("7=a");
        write("8=a");
        unchanged(() -> outsideFrom(2, x::cook));
        is("the last one", 1, () -> x.cook(1));
        x.erase(0);
        outside("none any more", () -> x.cook(1));
    }

    private void cookRefused() {
        promise(9, "Throws `UnsupportedOperationException` if it is refused for the reason 6, with the cause 3, 7 or 8;"
                + " the reason is then kept");
        x.drams(-9, 9);
        x.broth();
        write("1=a10=a");
        write("1=a2=b");
        write("1=a2~~=b");
        write("1=a" + MILLION + "1+~=b");
        unchangedButKept(() -> {
            boilsOver(0, 3, 3, 10);
            boilsOver(1, 3, 7, 1);
            boilsOver(2, 4, 7, -1);
            boilsOver(3, 14, 8, 1);
        });
        is("each one is counted", 4, () -> x.account(6));
        refused("another reason has no cause", () -> x.pour(0, 10), 3, 10);
        boilsOver(0, 3, 3, 10);
        is("counted again", 5, () -> x.account(6));
    }

    private void cookAll() {
        promise(10, "Cooks all spells that type, by their numbers.", "Returns how many there are.");
        setUp();
        write("7=a");
        is("one of one", 1, x::cookAll);
        write("a1+=a");
        is("one of two", 1, x::cookAll);
        is("the other one is not cooked", 0, () -> x.spellOf(1, 4));
        write("a~=b");
        write("a=a");
        is("three of four", 3, x::cookAll);
        is("three more are cooked", 5, () -> x.account(4));
        x.erase(1);
        write("8~=c");
        is("four of four", 4, x::cookAll);
        is("even if nothing is different then", 4, x::cookAll);
        x.undo();
        is("it is one change", 9, () -> x.account(4));
        is("how often the last one was cooked", 1, () -> x.spellOf(3, 4));
        is("how often the first one was cooked", 4, () -> x.spellOf(0, 4));
    }

    private void cookAllInOrder() {
        term(10, "More precisely", "When all spells that type are cooked, each one goes on from what the ones ahead of"
                + " it left.");
        setUp();
        x.drams(-99, 99);
        write("a~=b");
        write("7=a");
        write("a=d");
        write("8=a");
        is("all", 4, x::cookAll);
        is("ahead of the store", 0, () -> x.bits(1));
        is("behind the store", 7, () -> x.cauldronOf(3, 3));
        is("behind the last store", 8, () -> x.cauldronOf(0, 3));
        is("all again", 4, x::cookAll);
        is("ahead of the store, again", 8.0f, () -> x.cups(1));
        x.pour(0, 9);
        is("nothing but what is poured now", 4, x::cookAll);
        is("ahead of the store, then", 9.0f, () -> x.cups(1));
        is("not what is cooked in thought", 7, () -> x.would(1, 0));
        is("all once more", 4, x::cookAll);
        is("ahead of the store, last", 8.0f, () -> x.cups(1));
    }

    private void cookAllRefused() {
        promise(10, "Throws `UnsupportedOperationException` if it is refused for the reason 9; the reason is then"
                + " kept");
        refused("without spells", x::cookAll, 9, 0);
        x.drams(0, 9);
        for (int number = 1; number <= 4; number++) {
            int spells = number;
            write("a1+=a");
            unchangedButKept(() -> refused("none of " + spells, x::cookAll, 9, spells));
        }
        is("nothing boils over by it", 0, () -> x.account(6));
        x.erase(3);
        write("a=a");
        is("one that types is enough", 1, x::cookAll);
    }

    private void numberOutside() {
        promise(14, "Throws `IndexOutOfBoundsException` if there is no such spell");
        outside("none at all", () -> x.spellOf(0, 0));
        setUp();
        write("7=a");
        is("the last one", 2, () -> x.spellOf(0, 0));
        unchanged(() -> {
            outsideFrom(1, spell -> x.spellOf(spell, 0));
            outsideFrom(1, spell -> x.spellOf(spell, 5));
        });
    }

    private void numberOfNoWhat() {
        promise(14, "Throws `IllegalArgumentException` if what is not 0 to 4", "Returns a number of a spell.",
                "Returns the number.");
        setUp();
        write("7=a");
        is("the first what", 2, () -> x.spellOf(0, 0));
        is("the last what", 0, () -> x.spellOf(0, 4));
        unchanged(() -> {
            for (int wrong : new int[] {-1, 5, 6, 256, Integer.MAX_VALUE, Integer.MIN_VALUE}) {
                illegal("what " + wrong, () -> x.spellOf(0, wrong));
            }
        });
    }

    private void numbers() {
        promise(14, "- `what`: 0 for its tokens, 1 for its stores, 2 for how many spoons lie there at most, 3 for 1 if"
                + " it types, and 0 otherwise, 4 for how often it was cooked so far");
        setUp();
        write("12=a");
        write("12=a".repeat(12));
        write("aaaaa+=aa+++~=b");
        write("1=aa~~=b");
        x.cook(0);
        x.cook(1);
        x.cookAll();
        x.cook(0);
        boilsOver(3, 4, 7, -1);
        int[][] due = {{2, 1, 1, 1, 3}, {24, 12, 1, 1, 2}, {13, 2, 5, 0, 0}, {6, 2, 1, 0, 0}};
        for (int number = 0; number < 4; number++) {
            for (int which = 0; which < 5; which++) {
                int spell = number;
                int what = which;
                is("spell " + spell + ", what " + what, due[spell][what], () -> x.spellOf(spell, what));
            }
        }
    }

    private void would() {
        promise(21, "Returns what would be in a cauldron behind cooking a spell, cut to an integer: spoon by spoon.",
                "Returns the number.");
        setUp();
        x.pour(0, -7);
        x.ladle(1, 199);
        x.ladle(2, -199);
        write("a3-=ac=b");
        unchanged(() -> {
            is("drams", -10, () -> x.would(0, 0));
            is("broth, cut", -1, () -> x.would(0, 1));
            is("what is not stored in", -1, () -> x.would(0, 2));
        });
        x.cook(0);
        is("cooked now", -13, () -> x.would(0, 0));
        write(NINES + "~=b0~b-=c");
        is("the most", 9999, () -> x.would(1, 1));
        is("the least", -9999, () -> x.would(1, 2));
        write("00c-=c");
        noElement("it does not go together", () -> x.would(2, 0));
        write("0~c-=cc=b0~c-=c");
        is("the last store counts", -1, () -> x.would(3, 2));
        is("and the one ahead of it", 1, () -> x.would(3, 1));
    }

    private void wouldOfMostSpoons() {
        promise(21, "spoon by spoon.");
        setUp();
        becomes("9080701605+-+-=a", 90 - (80 + (70 - (16 + 5))));
        x.pour(0, 2);
        becomes("aaaaa+*+*=a", 2 * (2 + 2 * (2 + 2)));
        is("five of them", 5, () -> x.spellOf(0, 2));
    }

    private void wouldOutside() {
        promise(21, "Throws `IndexOutOfBoundsException` if there is no such spell or cauldron");
        outside("none at all", () -> x.would(0, 0));
        x.drams(-9, 9);
        outside("a cauldron alone", () -> x.would(0, 0));
        write("9=a");
        write("10=a");
        is("the last cauldron", 9, () -> x.would(0, 0));
        unchanged(() -> {
            outsideFrom(2, spell -> x.would(spell, 0));
            outsideFrom(1, cauldron -> x.would(0, cauldron));
            outside("no cauldron, ahead of boiling over", () -> x.would(1, 1));
            outside("neither of them", () -> x.would(2, 1));
        });
    }

    private void wouldBoilOver() {
        promise(21, "Throws `NoSuchElementException` if it would boil over");
        x.drams(-9, 9);
        x.drams(-9, 9);
        write("a1+=a");
        x.pour(0, 8);
        is("the highest", 9, () -> x.would(0, 0));
        x.cook(0);
        unchanged(() -> {
            noElement("above the highest", () -> x.would(0, 0));
            noElement("whatever cauldron", () -> x.would(0, 1));
        });
    }

    private void wouldAgain() {
        promise(22, "Returns the same by a second way: store by store, from the whole down to its parts.",
                "Returns the number.");
        setUp();
        x.pour(0, -7);
        x.ladle(1, 199);
        write("a3-=aa~b-=cc!a=a=a");
        is("the last store", -11, () -> x.wouldAgain(0, 0));
        is("what is not stored in, cut", 1, () -> x.wouldAgain(0, 1));
        is("from what was stored", -11, () -> x.wouldAgain(0, 2));
        write("a3-1=aa=aa+=a");
        is("taken ahead of a store, reckoned behind it", -9, () -> x.wouldAgain(1, 0));
        write("b" + "!~".repeat(11) + "=b");
        is("the longest way down", 1, () -> x.wouldAgain(2, 1));
    }

    private void wouldAgainOutside() {
        promise(22, "Throws `IndexOutOfBoundsException` if there is no such spell or cauldron");
        outside("none at all", () -> x.wouldAgain(0, 0));
        x.drams(-9, 9);
        outside("a cauldron alone", () -> x.wouldAgain(0, 0));
        write("9=a");
        write("10=a");
        is("the last cauldron", 9, () -> x.wouldAgain(0, 0));
        unchanged(() -> {
            outsideFrom(2, spell -> x.wouldAgain(spell, 0));
            outsideFrom(1, cauldron -> x.wouldAgain(0, cauldron));
            outside("no cauldron, ahead of boiling over", () -> x.wouldAgain(1, 1));
            outside("neither of them", () -> x.wouldAgain(2, 1));
        });
    }

    /** What a part was reckoned to before must not be told when it boils over now. */
    private void wouldAgainBoilOver() {
        promise(22, "Throws `NoSuchElementException` if it would boil over");
        setUp();
        write("a99-=a");
        is("the lowest", -99, () -> x.wouldAgain(0, 0));
        x.pour(0, -1);
        unchanged(() -> {
            noElement("below the lowest", () -> x.wouldAgain(0, 0));
            noElement("whatever cauldron", () -> x.wouldAgain(0, 2));
        });
        write("aa*a*a*~!=a");
        x.pour(0, 3);
        is("its parts go well", 81, () -> x.wouldAgain(1, 0));
        x.pour(0, 99);
        noElement("one of its parts boils over", () -> x.wouldAgain(1, 0));
    }

    private void boils() {
        promise(23, "Returns the place of the token by which a spell would boil over if it was cooked now.",
                "Returns the place.");
        setUp();
        write("a1+=a");
        write("b!!=a");
        write("7=a".repeat(11) + "7=b");
        x.pour(0, 99);
        unchanged(() -> {
            is("the store", 3, () -> x.boils(0));
            is("the cast", 2, () -> x.boils(1));
            is("the last place of all", 23, () -> x.boils(2));
        });
        x.bounds(0, 99, 99);
        is("the place now", 1, () -> x.boils(2));
        write("a=b");
        is("the lowest place of a store", 1, () -> x.boils(3));
    }

    private void boilsOutside() {
        promise(23, "Throws `IndexOutOfBoundsException` if there is no such spell");
        outside("none at all", () -> x.boils(0));
        setUp();
        write("7=a");
        write("7=b");
        is("the last one", 1, () -> x.boils(1));
        unchanged(() -> outsideFrom(2, x::boils));
    }

    private void boilsNot() {
        promise(23, "Throws `NoSuchElementException` if it would not");
        setUp();
        write("a1+=a");
        x.pour(0, 98);
        unchanged(() -> noElement("the highest", () -> x.boils(0)));
        x.cook(0);
        is("above the highest", 3, () -> x.boils(0));
    }

    private void lasts() {
        promise(24, "Returns how often a spell could be cooked one after the other from now on until it would boil"
                + " over");
        setUp();
        write("a1+=a");
        x.pour(0, 96);
        unchanged(() -> is("until it would boil over", 3, () -> x.lasts(0)));
        x.cook(0);
        x.cook(0);
        is("one is left", 1, () -> x.lasts(0));
        x.cook(0);
        is("none is left", 0, () -> x.lasts(0));
        boilsOver(0, 3, 3, 100);
    }

    private void lastsOutside() {
        promise(24, "Throws `IndexOutOfBoundsException` if there is no such spell");
        outside("none at all", () -> x.lasts(0));
        setUp();
        write("7=b");
        write("7=a");
        is("the last one", 1, () -> x.lasts(1));
        unchanged(() -> outsideFrom(2, x::lasts));
    }

    private void lastsUntil() {
        promise(24, ", or nothing would be different.");
        setUp();
        write("7=a");
        is("different once", 1, () -> x.lasts(0));
        x.cook(0);
        is("nothing would be different", 0, () -> x.lasts(0));
        write("8=a7=a");
        is("nor at the end", 0, () -> x.lasts(1));
        write("a~=bb=c");
        is("one after the other", 1, () -> x.lasts(2));
        write("b=ca~=b");
        is("by way of the other one", 2, () -> x.lasts(3));
        x.erase(3);
        write("b0~1~-*=b");
        is("other bits, though it is 0", 50, () -> x.lasts(3));
        x.erase(3);
        write("bb*=b");
        x.ladle(1, 200);
        is("until it is held", 4, () -> x.lasts(3));
    }

    private void lastsAtMost50() {
        promise(24, "Returns how often, 50 at most.");
        setUp();
        write("a1+=a");
        int[][] rows = {{50, 49}, {49, 50}, {48, 50}, {-99, 50}, {98, 1}, {99, 0}};
        for (int[] row : rows) {
            x.pour(0, row[0]);
            is("from " + row[0], row[1], () -> x.lasts(0));
        }
        x.bounds(0, 99, 99);
        is("by the bounds now", 0, () -> x.lasts(0));
        write("b1~+=b");
        is("broth", 50, () -> x.lasts(1));
    }
}
