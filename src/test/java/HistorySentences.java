/** The sentences of the document on refusals, history, saving and exceptions: promises 36 to 39. */
final class HistorySentences extends Sentences {
    HistorySentences(Check check, Document document) {
        super(check, document);
    }

    @Override
    void all() {
        mostCalls();
        firstOfTheReasons();
        firstOfTheCauses();
        reasonOfNoRoom();
        reasonOfBroth();
        reasonOfTooMany();
        reasonOfALadle();
        reasonOfALetter();
        reasonOfBoilingOver();
        causeOfKinds();
        causeOfReckoning();
        reasonOfNoTypes();
        whatIsAChange();
        whatIsNoChange();
        remembered();
        notRemembered();
        atMostSixChanges();
        restoreForgets();
        boilingOverChangesNothing();
        whatIsLadled();
        places();
        otherBits();
        throwsAndChangesNothing();
        firstException();
        questionsChangeNothing();
        reckonedExactly();
        typedByItsOwnBounds();
        lettersOfNoCauldron();
        reason();
        reasonThrows();
        undo();
        undoThrows();
        save();
        restore();
        restoreThrows();
    }

    private void mostCalls() {
        term(1, "What it is", "An object is used for at most 512 calls after it has been made");
        x.drams(-9, 9);
        for (int call = 2; call <= 511; call++) {
            x.pour(0, call % 10);
        }
        is("the 512th call", 511 % 10, () -> x.pour(0, 9));
        anew();
        x.broth();
        for (char character : "1~=a".toCharArray()) {
            x.append(character);
        }
        x.write();
        for (int call = 7; call <= 511; call++) {
            x.cook(0);
        }
        is("the 512th call, of many that cook", 505, () -> x.account(4));
    }

    private void firstOfTheReasons() {
        term(36, "Refusals", "Something is refused for the first of the reasons that apply, in the order in which its"
                + " method names them");
        x.broth();
        x.drams(-9, 9);
        x.pour(1, 5);
        refused("2 ahead of 3, poured", () -> x.pour(0, 100), 2, 0);
        refused("2 ahead of 3, bounds", () -> x.bounds(0, 1, 2), 2, 0);
        for (int spell = 0; spell < 4; spell++) {
            write("b=b");
        }
        refused("1 ahead of 5", () -> write("f=f"), 1, 4);
        x.erase(0);
        refused("5 alone", () -> write("b=f"), 5, 1);
    }

    private void firstOfTheCauses() {
        term(36, "Refusals", ", with a detail, and perhaps with a cause, which is a reason with a detail again");
        x.drams(-9, 9);
        x.broth();
        write("10=a");
        boilsOver(0, 1, 3, 10);
        refused("no cause any more", () -> x.pour(1, 0), 2, 1);
        boilsOver(0, 1, 3, 10);
        is("the reason is not its cause", 6, () -> x.reason(false, false));
        is("nor its detail the cause's", 1, () -> x.reason(false, true));
    }

    private void reasonOfNoRoom() {
        term(36, "Refusals", ": 1, there are 6 cauldrons, or 4 spells: this number");
        for (int cauldron = 0; cauldron < 5; cauldron++) {
            x.drams(-9, 9);
        }
        for (int spell = 0; spell < 3; spell++) {
            write("7=a");
        }
        is("room for one more cauldron", 5, x::broth);
        refused("there are 6 cauldrons", x::broth, 1, 6);
        is("room for one more spell", 3, () -> write("7=a"));
        refused("there are 4 spells", () -> write("7=a"), 1, 4);
        refused("there are still 6 cauldrons", () -> x.drams(0, 0), 1, 6);
    }

    private void reasonOfBroth() {
        term(36, "Refusals", "; 2, the cauldron is of broth: the cauldron");
        x.broth();
        x.drams(-9, 9);
        x.broth();
        refused("the first one", () -> x.pour(0, 0), 2, 0);
        refused("the last one", () -> x.pour(2, 0), 2, 2);
        refused("its bounds", () -> x.bounds(2, 0, 0), 2, 2);
        is("one of drams", 0, () -> x.pour(1, 7));
    }

    private void reasonOfTooMany() {
        term(36, "Refusals", "; 3, the cauldron does not hold so many drams: how many");
        x.drams(-9, 9);
        refused("too few", () -> x.pour(0, -10), 3, -10);
        refused("too many", () -> x.pour(0, 10), 3, 10);
        is("the highest", 0, () -> x.pour(0, 9));
        refused("those that are in it", () -> x.bounds(0, -9, 8), 3, 9);
    }

    private void reasonOfALadle() {
        term(36, "Refusals", "; 4, the cauldron is of drams: the cauldron");
        x.drams(-9, 9);
        x.broth();
        x.drams(-9, 9);
        refused("the first one", () -> x.ladle(0, 1), 4, 0);
        refused("the last one", () -> x.ladle(2, 1), 4, 2);
        is("one of broth", 0, () -> x.ladle(1, 1));
    }

    private void reasonOfALetter() {
        term(36, "Refusals", "; 5, a letter tells a cauldron that there is not: the place of its token");
        refused("the first place", () -> write("a=a"), 5, 0);
        x.drams(-9, 9);
        refused("the last place", () -> write("7=a".repeat(11) + "7=b"), 5, 23);
        refused("a place behind longer tokens", () -> write("12a+34-=b"), 5, 5);
        is("the last letter that there is", 0, () -> write("a=a"));
    }

    private void reasonOfBoilingOver() {
        term(36, "Refusals", "; 6, the spell boils over: the place of the token");
        x.drams(-9, 9);
        textBoilsOver("a!=a", 1, 7, -1);
        textBoilsOver("10=a", 1, 3, 10);
        textBoilsOver("7=a".repeat(11) + "10=a", 23, 3, 10);
    }

    private void causeOfKinds() {
        term(36, "Refusals", "; 7, kinds do not go together: the cauldron of a store, or -1 for another token");
        x.drams(-9, 9);
        x.broth();
        x.drams(-9, 9);
        textBoilsOver("7=b", 1, 7, 1);
        textBoilsOver("7~=a", 2, 7, 0);
        textBoilsOver("7~=c", 2, 7, 2);
        textBoilsOver("ab+=a", 2, 7, -1);
        textBoilsOver("ba-=a", 2, 7, -1);
        textBoilsOver("ab*=a", 2, 7, -1);
        textBoilsOver("b~=b", 1, 7, -1);
        textBoilsOver("a!=a", 1, 7, -1);
    }

    private void causeOfReckoning() {
        term(36, "Refusals", "; 8, too many or too few drams are reckoned: -1 if there would be fewer than -1000000, or"
                + " else 1");
        x.drams(-9, 9);
        textBoilsOver(MILLION + "1+=a", 12, 8, 1);
        textBoilsOver(MILLION + "10*=a", 12, 8, 1);
        textBoilsOver("00" + MILLION + "-1-=a", 14, 8, -1);
        textBoilsOver("00" + MILLION + "-10*=a", 14, 8, -1);
        textBoilsOver(MILLION + "=a", 11, 3, 1000000);
        textBoilsOver("00" + MILLION + "-=a", 13, 3, -1000000);
    }

    private void reasonOfNoTypes() {
        term(36, "Refusals", "; 9, no spell types: how many spells there are.");
        x.drams(-9, 9);
        refused("without spells", x::cookAll, 9, 0);
        write("10=a");
        refused("one", x::cookAll, 9, 1);
        write("10=a");
        write("10=a");
        write("10=a");
        refused("four", x::cookAll, 9, 4);
        x.bounds(0, -9, 10);
        is("all four type now", 4, x::cookAll);
    }

    private void changes(String what, int due) {
        is(what + ", changes", due, () -> x.account(9));
    }

    private void whatIsAChange() {
        term(37, "History", "A change is a call of drams, broth, pour, ladle, bounds, write, erase, cook or cookAll that"
                + " returns without an exception.");
        x.drams(-9, 9);
        changes("drams", 1);
        x.broth();
        changes("broth", 2);
        x.pour(0, 0);
        changes("pour, even if it is the same", 3);
        x.ladle(1, 0);
        changes("ladle, even if it is the same", 4);
        x.bounds(0, -9, 9);
        changes("bounds, even if they are the same", 5);
        anew();
        x.drams(-9, 9);
        write("7=a");
        changes("write", 2);
        x.cook(0);
        changes("cook", 3);
        x.cook(0);
        changes("cook, even if nothing is different", 4);
        x.cookAll();
        changes("cookAll", 5);
        x.erase(0);
        changes("erase", 6);
    }

    private void whatIsNoChange() {
        term(37, "History", "that returns without an exception.");
        x.drams(-9, 9);
        x.broth();
        illegal("drams", () -> x.drams(1, 0));
        outside("pour", () -> x.pour(2, 0));
        refused("pour", () -> x.pour(0, 10), 3, 10);
        illegal("ladle", () -> x.ladle(1, 10000));
        refused("ladle", () -> x.ladle(0, 1), 4, 0);
        illegal("bounds", () -> x.bounds(0, 1, 0));
        refused("bounds", () -> x.bounds(0, 1, 9), 3, 0);
        malformed("a", 1);
        refused("write", () -> write("c=a"), 5, 0);
        outside("erase", () -> x.erase(0));
        outside("cook", () -> x.cook(0));
        refused("cookAll", x::cookAll, 9, 0);
        changes("none of these", 2);
        write("10=a");
        boilsOver(0, 1, 3, 10);
        changes("nor one that boils over", 3);
        x.append('a');
        x.tell(0);
        x.save();
        changes("nor any other call", 3);
    }

    /** Behind a change that is undone there must be all that was there ahead of it. */
    private void undone(String what, Runnable change) {
        String before = state();
        change.run();
        same(what + " is a change", false, before.equals(state()));
        x.undo();
        same(what + " is undone", before, state());
    }

    private void remembered() {
        term(37, "History", "The object remembers everything", ", as it is just before a change");
        x.drams(-9, 9);
        undone("drams", () -> x.drams(-5, 5));
        undone("broth", x::broth);
        x.broth();
        undone("pour", () -> x.pour(0, 9));
        undone("ladle", () -> x.ladle(1, 9999));
        undone("bounds", () -> x.bounds(0, 0, 0));
        undone("write", () -> write("7=a"));
        anew();
        x.drams(-9, 9);
        x.broth();
        write("7=aa~=b");
        write("8=a");
        undone("erase", () -> x.erase(0));
        undone("cook", () -> x.cook(0));
        undone("cookAll", x::cookAll);
        x.cook(1);
        undone("erase of one that was cooked", () -> x.erase(1));
    }

    private void notRemembered() {
        term(37, "History", " except the reason, the input, the error position, the line, how often spells boiled over,"
                + " and what was saved");
        x.drams(-9, 9);
        write("10=a");
        x.pour(0, 9);
        x.save();
        x.pour(0, 8);
        boilsOver(0, 1, 3, 10);
        malformed("7=?", 2);
        type("7=");
        x.tellCauldron(0);
        String kept = kept();
        for (int changes = 3; changes >= 0; changes--) {
            x.undo();
        }
        same("all of it is as it was", kept, kept());
        is("there is nothing else", 0, () -> x.account(0));
        is("but what was saved", 1, x::restore);
        is("as it was", 9, () -> x.cauldronOf(0, 3));
        same("and restore leaves the others, too", kept, kept());
    }

    private void atMostSixChanges() {
        term(37, "History", ", for at most 6 changes, of which the oldest one is forgotten for good when there would be"
                + " more.");
        x.drams(-99, 99);
        for (int many = 1; many <= 5; many++) {
            x.pour(0, many);
        }
        changes("six", 6);
        for (int left = 5; left >= 0; left--) {
            is("all six are undone", left, x::undo);
        }
        is("to the start", 0, () -> x.account(0));
        x.drams(-99, 99);
        for (int many = 1; many <= 6; many++) {
            x.pour(0, many);
        }
        changes("of seven", 6);
        is("one is undone", 5, x::undo);
        x.pour(0, 60);
        changes("again", 6);
        for (int left = 5; left >= 0; left--) {
            is("six are undone", left, x::undo);
        }
        noElement("not the seventh", x::undo);
        is("it stays", 1, () -> x.account(0));
        is("with what was in it at first", 0, () -> x.cauldronOf(0, 3));
        wrapsAround();
    }

    /** Many changes, some of which are undone, so that the oldest ones are forgotten again and again. */
    private void wrapsAround() {
        for (int many = 10; many < 30; many++) {
            x.pour(0, many);
            if (many % 3 == 0) {
                int before = many - 1;
                x.undo();
                is("undone in between", before, () -> x.cauldronOf(0, 3));
            }
        }
        int[] due = {28, 26, 25, 23, 22, 20};
        for (int number = 0; number < due.length; number++) {
            int expected = due[number];
            int left = 5 - number;
            changes("are left", left + 1);
            is("one more is undone", left, x::undo);
            is("what was in it", expected, () -> x.cauldronOf(0, 3));
        }
        noElement("the others are forgotten", x::undo);
    }

    private void restoreForgets() {
        term(39, "History", "restore forgets all of them.");
        x.drams(-9, 9);
        x.save();
        for (int many = 1; many <= 7; many++) {
            x.pour(0, many);
        }
        is("restored", 0, x::restore);
        changes("none", 0);
        noElement("nothing to undo", x::undo);
        x.pour(0, 9);
        changes("a new one", 1);
        is("is undone", 0, x::undo);
        is("to what was restored", 0, () -> x.cauldronOf(0, 3));
        noElement("nothing more to undo", x::undo);
    }

    private void boilingOverChangesNothing() {
        term(9, "More precisely", "A spell that boils over changes nothing but that count.");
        x.drams(-9, 9);
        x.broth();
        write("7=a7~=b10=a");
        unchangedButKept(() -> boilsOver(0, 6, 3, 10));
        is("the count", 1, () -> x.account(6));
        is("no stores", 0, () -> x.cauldronOf(0, 4));
        is("nothing stored", 0, () -> x.cauldronOf(0, 3));
        is("not cooked", 0, () -> x.spellOf(0, 4));
        unchangedButKept(() -> boilsOver(0, 6, 3, 10));
        is("the count again", 2, () -> x.account(6));
    }

    private void whatIsLadled() {
        term(5, "More precisely", "What broth is ladled is the hundredths, converted to float, divided by 100.0f.");
        x.broth();
        for (int number : new int[] {1, 2, 3, 7, 10, 29, 33, 57, 58, 99, 101, 115, 1999, 3333, 5001, 9998, 9999}) {
            for (int hundredths : new int[] {number, -number}) {
                x.ladle(0, hundredths);
                is("hundredths " + hundredths, (float) hundredths / 100.0f, () -> x.cups(0));
                is("bits of " + hundredths, Float.floatToIntBits((float) hundredths / 100.0f), () -> x.bits(0));
            }
        }
        x.ladle(0, 0);
        is("nothing", 0, () -> x.bits(0));
    }

    private void places() {
        term(15, "More precisely", "Places of tokens are counted from 0, whatever characters they have.");
        x.drams(-9, 9);
        write("07=a12=a1=a");
        is("place 1", '=', () -> x.token(0, 1));
        is("place 2", '1', () -> x.token(0, 2));
        is("place 5", '=', () -> x.token(0, 5));
        noElement("no place 6", () -> x.token(0, 6));
        is("of the fault", 3, () -> x.fault(0));
        boilsOver(0, 3, 3, 12);
        refused("of a letter", () -> write("07=a12=f"), 5, 3);
    }

    private void otherBits() {
        term(9, "More precisely", "Something else is in a cauldron of broth if the bits are other ones.");
        x.broth();
        write("a0~1~-*=a");
        is("a zero below zero", 1, () -> x.cook(0));
        is("is another one", Integer.MIN_VALUE, () -> x.bits(0));
        is("than the zero above zero", 1, () -> x.cook(0));
        is("which it was", 0, () -> x.bits(0));
        write("a=a");
        is("the same bits", 0, () -> x.cook(1));
        x.cook(0);
        is("the same bits below zero", 0, () -> x.cook(1));
        is("would be different for ever", 50, () -> x.lasts(0));
        is("would never be different", 0, () -> x.lasts(1));
        x.ladle(0, 1);
        write("a99~1~+*99~-1~-a-=a");
        is("other digits", 1, () -> x.cook(2));
    }

    private void throwsAndChangesNothing() {
        term(9, "Exceptions", "A method that throws an exception leaves the state unchanged, unless its documentation says"
                + " otherwise.");
        x.drams(-9, 9);
        x.broth();
        write("7=a");
        write("7=a10=a");
        unchanged(this::callsThatThrow);
        unchangedButKept(() -> {
            refused("pour", () -> x.pour(0, 10), 3, 10);
            refused("ladle", () -> x.ladle(0, 0), 4, 0);
            refused("bounds", () -> x.bounds(1, 0, 0), 2, 1);
            refused("write", () -> write("c=c"), 5, 0);
            malformed("7=a?", 3);
            boilsOver(1, 3, 3, 10);
        });
    }

    private void callsThatThrow() {
        illegal("drams", () -> x.drams(9, -9));
        illegal("ladle", () -> x.ladle(1, 10000));
        illegal("bounds", () -> x.bounds(0, 9, -9));
        outside("erase", () -> x.erase(2));
        outside("cook", () -> x.cook(2));
        illegal("cauldronOf", () -> x.cauldronOf(0, 7));
        noElement("cups", () -> x.cups(0));
        outside("bits", () -> x.bits(2));
        illegal("spellOf", () -> x.spellOf(0, 5));
        noElement("token", () -> x.token(0, 2));
        outside("types", () -> x.types(2));
        noElement("fault", () -> x.fault(0));
        noElement("bound", () -> x.bound(1, 0, true));
        noElement("would", () -> x.would(1, 0));
        noElement("wouldAgain", () -> x.wouldAgain(1, 0));
        noElement("boils", () -> x.boils(0));
        outside("lasts", () -> x.lasts(2));
        noElement("ranked", () -> x.ranked(2));
        outside("tell", () -> x.tell(2));
        outside("tellCauldron", () -> x.tellCauldron(2));
        illegal("account", () -> x.account(10));
        illegal("append", () -> x.append((char) 127));
        is("restore", "throws IllegalStateException", x::restore);
    }

    private void firstException() {
        term(9, "Exceptions", "If several exceptions apply, the one that is documented first is thrown.");
        x.drams(-9, 9);
        x.broth();
        write("7=a");
        outside("pour: no cauldron, then how many", () -> x.pour(2, 100));
        outside("ladle: no cauldron, then the number", () -> x.ladle(2, 10000));
        illegal("ladle: the number, then drams", () -> x.ladle(0, 10000));
        outside("bounds: no cauldron, then the numbers", () -> x.bounds(2, 1, 0));
        illegal("bounds: the numbers, then broth", () -> x.bounds(1, 1, 0));
        illegal("bounds: the numbers, then what is in it", () -> x.bounds(0, 1, 100));
        outside("cauldronOf: no cauldron, then what", () -> x.cauldronOf(2, 7));
        outside("spellOf: no spell, then what", () -> x.spellOf(1, 5));
        outside("token: no spell, then no place", () -> x.token(1, 99));
        outside("bound: no spell, then no store", () -> x.bound(1, 99, true));
        outside("would: no cauldron, then it boils over", () -> x.would(0, 2));
        for (int cauldron = 2; cauldron < 6; cauldron++) {
            x.broth();
        }
        illegal("drams: the numbers, then no room", () -> x.drams(1, 0));
        for (int spell = 1; spell < 4; spell++) {
            write("7=a");
        }
        malformed("f=g", 2);
        noElement("nothing was refused", () -> x.reason(false, false));
        type("a".repeat(60));
        illegal("append: the code, then no room", () -> x.append((char) 127));
    }

    private void questionsChangeNothing() {
        term(20, "Exceptions", "Methods whose documentation does not mention a change only answer a question.");
        x.drams(-9, 9);
        x.broth();
        write("7=a7~=b");
        write("10=a");
        unchanged(() -> {
            is("bits", 0, () -> x.bits(1));
            is("cups", 0.0f, () -> x.cups(1));
            is("types", true, () -> x.types(0));
            is("typesAgain", true, () -> x.typesAgain(0));
            is("fault", 1, () -> x.fault(1));
            is("bound", 7, () -> x.bound(0, 0, true));
            is("would", 7, () -> x.would(0, 0));
            is("wouldAgain", 7, () -> x.wouldAgain(0, 1));
            noElement("would boil over", () -> x.would(1, 0));
            is("boils", 1, () -> x.boils(1));
            is("lasts", 1, () -> x.lasts(0));
            is("ranked", 1, () -> x.ranked(0));
            is("widest", 0, x::widest);
            is("isSafe", true, x::isSafe);
            is("meanBits", 0L, x::meanBits);
            is("typedShare", 0.5f, x::typedShare);
            is("save", 2, x::save);
        });
    }

    private void reckonedExactly() {
        term(9, "Besides", "Drams are reckoned exactly ahead of the question whether they are too many or too few.");
        x.drams(-99, 99);
        textBoilsOver("6464*16*6464*16**=a", 10, 8, 1);
        textBoilsOver("6464*16*6464*08**=a", 10, 8, 1);
        textBoilsOver("006464*16*-6464*16**=a", 12, 8, -1);
        textBoilsOver("9999*99*9999*99**=a", 10, 8, 1);
        textBoilsOver("009999*99*-9999*99**=a", 12, 8, -1);
        put("6464*16*6464*16*-=a");
        is("the difference is held", 0, () -> x.would(0, 0));
        put("9999*99*9999*99*-3+=a");
        is("by its last digit", 3, () -> x.wouldAgain(0, 0));
    }

    private void typedByItsOwnBounds() {
        term(16, "Besides", "To type a spell, a cauldron that a token takes has its own bounds, whatever the spell stored"
                + " in it ahead.");
        x.drams(-9, 9);
        x.drams(-5, 5);
        put("1=aa=b");
        is("a may hold more than b", false, () -> x.types(0));
        is("again", false, () -> x.typesAgain(0));
        is("by the second store", 3, () -> x.fault(0));
        is("though it would go well", 1, () -> x.would(0, 1));
        put("1=bb=a");
        is("b may not hold more than a", true, () -> x.types(0));
        is("again", true, () -> x.typesAgain(0));
        is("by its own bounds", -5, () -> x.bound(0, 1, false));
        is("both of them", 5, () -> x.bound(0, 1, true));
    }

    private void lettersOfNoCauldron() {
        term(7, "Besides", "A letter that tells a cauldron that there is not is no error of the text, and is refused as"
                + " the spell is written.");
        refused("a letter that is taken", () -> write("f=a"), 5, 0);
        refused("a letter that is stored in", () -> write("7=a"), 5, 1);
        noElement("no error position is kept", x::errorPosition);
        x.drams(-9, 9);
        is("a letter of one that there is", 0, () -> write("a=a"));
        refused("the next letter", () -> write("a=b"), 5, 1);
        malformed("f=ff", 4);
        malformed("f=g", 2);
    }

    private void reason() {
        promise(36, "Returns the reason that was kept last, its cause, or the detail of one.",
                "Returns the reason or the detail.");
        x.drams(-9, 9);
        write("10=a");
        refused("one", () -> x.pour(0, 11), 3, 11);
        boilsOver(0, 1, 3, 10);
        is("it stays when it is asked for", 6, () -> x.reason(false, false));
        x.pour(0, 1);
        illegal("a call that is not refused", () -> x.drams(1, 0));
        is("it stays behind others", 10, () -> x.reason(true, true));
        x.undo();
        x.save();
        x.restore();
        is("it stays behind undo and restore", 3, () -> x.reason(true, false));
        refused("another one", () -> x.ladle(0, 0), 4, 0);
    }

    private void reasonThrows() {
        promise(36, "Throws `NoSuchElementException` if none was kept, or there is no cause");
        for (boolean isCause : new boolean[] {false, true}) {
            for (boolean isDetail : new boolean[] {false, true}) {
                noElement("none was kept " + isCause + isDetail, () -> x.reason(isCause, isDetail));
            }
        }
        illegal("what is not refused", () -> x.drams(1, 0));
        malformed("", 0);
        noElement("keeps none", () -> x.reason(false, false));
        refused("there is no cause", x::cookAll, 9, 0);
        x.drams(-9, 9);
        write("10=a");
        boilsOver(0, 1, 3, 10);
        refused("there is none any more", x::cookAll, 9, 1);
    }

    private void undo() {
        promise(37, "Undoes the latest change that is remembered.",
                "Returns the number of changes that are still remembered.");
        x.drams(-9, 9);
        x.pour(0, 3);
        x.bounds(0, 1, 5);
        x.pour(0, 4);
        is("three are left", 3, x::undo);
        is("the latest", 3, () -> x.cauldronOf(0, 3));
        is("not the one ahead", 1, () -> x.cauldronOf(0, 1));
        is("two are left", 2, x::undo);
        is("the one ahead", -9, () -> x.cauldronOf(0, 1));
        is("one is left", 1, x::undo);
        is("what was in it at first", 0, () -> x.cauldronOf(0, 3));
        x.pour(0, 9);
        is("a new change is the latest", 1, x::undo);
        is("none is left", 0, x::undo);
        is("as it was at first", 0, () -> x.account(0));
    }

    private void undoThrows() {
        promise(37, "Throws `NoSuchElementException` if no change is remembered");
        unchanged(() -> noElement("a new object", x::undo));
        type("7=a");
        x.save();
        unchanged(() -> noElement("what is no change", x::undo));
        x.drams(-9, 9);
        is("one", 0, x::undo);
        unchanged(() -> noElement("none any more", x::undo));
        x.drams(-9, 9);
        x.restore();
        unchanged(() -> noElement("none behind restore", x::undo));
    }

    private void save() {
        promise(38, "Saves all that the history remembers for a change. What was saved before is replaced.",
                "Returns how many spells there are.");
        is("without spells", 0, x::save);
        x.drams(-9, 9);
        for (int number = 1; number <= 4; number++) {
            int spells = number;
            write("7=a");
            is("spells", spells, x::save);
        }
        x.cook(0);
        x.bounds(0, 0, 7);
        x.erase(3);
        x.save();
        String saved = state().replaceAll("\\d+ \\|", "|");
        x.pour(0, 1);
        x.bounds(0, 0, 1);
        x.erase(0);
        x.broth();
        is("what was saved last", 3, x::restore);
        same("all of it", saved, state().replaceAll("\\d+ \\|", "|"));
        unchanged(() -> is("only saves", 3, x::save));
    }

    private void restore() {
        promise(39, "Restores what was saved. It stays saved.", "Returns how many spells there are.");
        x.drams(-9, 9);
        x.broth();
        write("7=a7~=b");
        x.cook(0);
        x.save();
        x.restore();
        String saved = state();
        is("restored when nothing is different", 1, x::restore);
        same("it is as it was", saved, state());
        x.pour(0, 1);
        x.ladle(1, 1);
        x.cook(0);
        x.cookAll();
        is("what was in them, and how often", 1, x::restore);
        same("is there again", saved, state());
        x.erase(0);
        x.bounds(0, 7, 7);
        x.drams(1, 1);
        is("spells, bounds and cauldrons", 1, x::restore);
        same("are there again", saved, state());
        is("the text, too", 7, () -> x.tell(0));
        same("as it was", "7=a7~=b", line());
        for (int spell = 1; spell < 4; spell++) {
            write("7=a");
        }
        is("it stays saved", 1, x::restore);
        outside("without the later spells", () -> x.tell(1));
        restoreOfOtherKinds();
    }

    private void restoreOfOtherKinds() {
        anew();
        x.broth();
        x.drams(3, 4);
        x.save();
        String saved = kindsOf(2);
        x.undo();
        x.undo();
        x.drams(-7, 7);
        x.broth();
        x.ladle(1, 50);
        is("without spells", 0, x::restore);
        same("each is of the kind that it was", saved, kindsOf(2));
        is("and holds what it held", 0.0f, () -> x.cups(0));
        refused("and nothing else", () -> x.pour(1, 5), 3, 5);
    }

    private String kindsOf(int cauldrons) {
        StringBuilder kinds = new StringBuilder();
        for (int cauldron = 0; cauldron < cauldrons; cauldron++) {
            for (int what = 0; what < 4; what++) {
                kinds.append(x.cauldronOf(cauldron, what)).append(' ');
            }
        }
        return kinds.toString();
    }

    private void restoreThrows() {
        promise(39, "Throws `IllegalStateException` if nothing was saved");
        unchanged(() -> is("a new object", "throws IllegalStateException", x::restore));
        x.drams(-9, 9);
        unchanged(() -> is("behind a change", "throws IllegalStateException", x::restore));
        is("it is still remembered", 0, x::undo);
        x.save();
        is("an empty cookbook was saved", 0, x::restore);
        x.drams(-9, 9);
        is("and is there again", 0, x::restore);
        is("without cauldrons", 0, () -> x.account(0));
    }
}
