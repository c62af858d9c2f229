/** The sentences of the document on types: promises 16 to 20, 27 and 32. */
final class TypeSentences extends Sentences {
    TypeSentences(Check check, Document document) {
        super(check, document);
    }

    @Override
    void all() {
        boundsOfACauldron();
        boundsOfDigits();
        boundsOfCasts();
        boundsOfSums();
        boundsOfDifferences();
        boundsOfProducts();
        kindsThatWouldBoilOver();
        noBoundTooFar();
        storesWithinBounds();
        types();
        typesOutside();
        typesAgain();
        typesAgainOutside();
        fault();
        faultOutside();
        faultOfNone();
        bound();
        boundOutside();
        boundOfNone();
        typed();
        isSafe();
        typedShare();
        typedShareOfNone();
    }

    /** The cauldrons of drams a from -3 to 5, b from 2 to 7, and d and e, and c of broth. */
    private void setUp() {
        x.drams(-3, 5);
        x.drams(2, 7);
        x.broth();
        x.drams(-99, 99);
        x.drams(-99, 99);
    }

    private void typesBoth(String what, boolean due) {
        is(what, due, () -> x.types(0));
        is(what + ", again", due, () -> x.typesAgain(0));
        is(what + ", told by spellOf", due ? 1 : 0, () -> x.spellOf(0, 3));
    }

    private void typesNot(String text, int place) {
        put(text);
        typesBoth(text, false);
        is(text + ", fault", place, () -> x.fault(0));
    }

    private void typesWell(String text) {
        put(text);
        typesBoth(text, true);
        noElement(text + ", fault", () -> x.fault(0));
    }

    /** Sets the cauldron e up with these bounds, and with drams in it that the next bounds hold too. */
    private void boundsOfE(int low, int high, int many) {
        x.bounds(4, -99, 99);
        x.pour(4, many);
        x.bounds(4, low, high);
    }

    /** Looks whether the drams of the text fit just so, in a cauldron of these bounds and in no narrower one. */
    private void bounded(String text, int low, int high) {
        put(text + "=e");
        boundsOfE(low, high, low);
        typesBoth(text, true);
        is("lowest of " + text, low, () -> x.bound(0, 0, false));
        is("highest of " + text, high, () -> x.bound(0, 0, true));
        if (low < high) {
            boundsOfE(low, high - 1, low);
            typesBoth(text + " below the highest", false);
            boundsOfE(low + 1, high, high);
            typesBoth(text + " above the lowest", false);
        }
    }

    private void boundsOfACauldron() {
        term(19, "Types", "To type a spell, each spoon is told by its kind, and for drams by bounds: those of a cauldron"
                + " are its lowest and its highest number");
        setUp();
        bounded("a", -3, 5);
        bounded("b", 2, 7);
        bounded("d", -99, 99);
        x.bounds(3, 0, 0);
        bounded("d", 0, 0);
        typesWell("c=c");
    }

    private void boundsOfDigits() {
        term(19, "Types", ", those of digits this number twice");
        setUp();
        bounded("0", 0, 0);
        bounded("9", 9, 9);
        bounded("07", 7, 7);
        bounded("99", 99, 99);
        typesWell("5=a");
        typesNot("6=a", 1);
    }

    private void boundsOfCasts() {
        term(19, "Types", ", those of a cast -99 and 99");
        setUp();
        bounded("c!", -99, 99);
        bounded("7~!", -99, 99);
        bounded("a~!", -99, 99);
        bounded("c!0*", 0, 0);
        bounded("a~!~!", -99, 99);
    }

    private void boundsOfSums() {
        term(19, "Types", "; to add, the lowest numbers of both are added, and the highest ones");
        setUp();
        bounded("ab+", -1, 12);
        bounded("ba+", -1, 12);
        bounded("aa+", -6, 10);
        bounded("a7+", 4, 12);
        bounded("aa+a+", -9, 15);
    }

    private void boundsOfDifferences() {
        term(19, "Types", "; to subtract, the highest number is subtracted from the lowest one, and the lowest one from"
                + " the highest one");
        setUp();
        bounded("ab-", -10, 3);
        bounded("ba-", -3, 10);
        bounded("aa-", -8, 8);
        bounded("a7-", -10, -2);
        bounded("7a-", 2, 10);
    }

    private void boundsOfProducts() {
        term(19, "Types", "; to multiply, the bounds are the least and the greatest of the four products of a bound of"
                + " the one and a bound of the other.");
        setUp();
        bounded("ab*", -21, 35);
        bounded("ba*", -21, 35);
        bounded("aa*", -15, 25);
        bounded("bb*", 4, 49);
        anew();
        setUp();
        bounded("00b-b*", -49, -4);
        bounded("b00b-*", -49, -4);
        bounded("00b-00b-*", 4, 49);
        bounded("a00b-*", -35, 21);
        anew();
        setUp();
        bounded("00b-a*", -35, 21);
        bounded("a0002-*", -10, 6);
        bounded("a0*", 0, 0);
        bounded("aa*2*", -30, 50);
    }

    private void kindsThatWouldBoilOver() {
        term(16, "Types", "A spell types if by no token the kinds are such that it would boil over");
        setUp();
        typesNot("ac+=d", 2);
        typesNot("ca-=c", 2);
        typesNot("ac*=c", 2);
        typesNot("a!=d", 1);
        typesNot("c~=c", 1);
        typesNot("a=c", 1);
        typesNot("c=d", 1);
        typesNot("7~!~~=c", 4);
        typesWell("cc+c-c*=c");
        typesWell("ab+a-~=c");
    }

    private void noBoundTooFar() {
        term(16, "Types", ", no bound is below -1000000 or above 1000000");
        setUp();
        x.drams(-10, 10);
        typesWell(MILLION + "~=c");
        typesNot(MILLION + "1+~=c", 12);
        typesWell("00" + MILLION + "-~=c");
        typesNot("00" + MILLION + "-1-~=c", 14);
        typesWell("ff*f*f*f*f*~=c");
        typesNot("ff*f*f*f*f*1+~=c", 12);
        anew();
        setUp();
        x.drams(-10, 10);
        typesNot("ff*f*f*f*f*1-~=c", 12);
        typesWell("ff*f*f*f*f*0-0*=d");
        typesNot("ff*f*f*f*f*2*0*=d", 12);
        typesNot("9902+9999*99+1+*~=c", 10);
        typesNot("9902+009999*99+1+-*~=c", 12);
        typesNot("6464*16*6464*16**~=c", 10);
    }

    private void storesWithinBounds() {
        term(16, "Types", ", and the bounds of what is stored in a cauldron of drams are within those of the cauldron.");
        setUp();
        typesWell("a=a");
        typesWell("b3-=a4=b");
        typesNot("b=a", 1);
        typesNot("a=b", 1);
        typesNot("b3-1-1-1-=a", 9);
        typesNot("b2-1+=a", 5);
        typesWell("b2-=a");
        typesWell("b5-=a");
        typesNot("b5-1-=a", 5);
        typesNot("1=a2=a6=a", 5);
    }

    private void types() {
        promise(16, "Tells whether a spell types: token by token.", "Returns whether it does.");
        setUp();
        write("5=a");
        write("6=a");
        is("the highest", true, () -> x.types(0));
        is("above the highest", false, () -> x.types(1));
        x.bounds(0, -3, 6);
        is("by the bounds now", true, () -> x.types(1));
        x.undo();
        is("and by those before", false, () -> x.types(1));
        x.erase(1);
        put("aaaaa++++=d");
        typesBoth("five spoons", true);
        is("lowest of five", -15, () -> x.bound(0, 0, false));
        typesNot("aaaaa****=d", 9);
    }

    private void typesOutside() {
        promise(16, "Throws `IndexOutOfBoundsException` if there is no such spell");
        outside("none at all", () -> x.types(0));
        setUp();
        write("6=a");
        write("5=a");
        is("the last one", true, () -> x.types(1));
        unchanged(() -> outsideFrom(2, x::types));
    }

    private void typesAgain() {
        promise(17, "Tells the same by a second way: store by store, from the whole down to its parts.",
                "Returns whether it does.");
        setUp();
        write("5=a");
        write("5=a6=a");
        write("6=a5=a");
        is("the highest", true, () -> x.typesAgain(0));
        is("not the last store", false, () -> x.typesAgain(1));
        is("not the first store", false, () -> x.typesAgain(2));
        write("a" + "~!".repeat(11) + "=d");
        is("the longest way down", true, () -> x.typesAgain(3));
        x.bounds(3, -99, 98);
        is("not the longest way down", false, () -> x.typesAgain(3));
    }

    private void typesAgainOutside() {
        promise(17, "Throws `IndexOutOfBoundsException` if there is no such spell");
        outside("none at all", () -> x.typesAgain(0));
        setUp();
        write("6=a");
        write("5=a");
        is("the last one", true, () -> x.typesAgain(1));
        unchanged(() -> outsideFrom(2, x::typesAgain));
    }

    private void fault() {
        promise(18, "Returns the place of the first token by which a spell does not type.", "Returns the place.");
        setUp();
        typesNot("6=a", 1);
        typesNot("a!!!=d", 1);
        typesNot("1=a2=a3=a6=a7=a", 7);
        typesNot("7=d".repeat(11) + "6=a", 23);
        typesNot("c~" + "!".repeat(20) + "=a", 1);
        typesNot(MILLION + "1+=a", 12);
        typesNot(MILLION + "=a", 11);
    }

    private void faultOutside() {
        promise(18, "Throws `IndexOutOfBoundsException` if there is no such spell");
        outside("none at all", () -> x.fault(0));
        setUp();
        write("5=a");
        write("6=a");
        is("the last one", 1, () -> x.fault(1));
        unchanged(() -> outsideFrom(2, x::fault));
    }

    private void faultOfNone() {
        promise(18, "Throws `NoSuchElementException` if it types");
        setUp();
        write("5=a");
        unchanged(() -> noElement("the highest", () -> x.fault(0)));
        x.bounds(0, -3, 4);
        is("above the highest now", 1, () -> x.fault(0));
        x.undo();
        noElement("and as it was", () -> x.fault(0));
    }

    private void bound() {
        promise(19, "Returns the lowest number of drams that a store of a spell that types can store, or the highest"
                + " one.", "- `store`: which store, from 0", "Returns the number.");
        setUp();
        write("1=dab+=dc=cbb*=d");
        int[][] due = {{1, 1}, {-1, 12}, {0, 0}, {4, 49}};
        for (int number = 0; number < 4; number++) {
            if (number != 2) {
                int store = number;
                is("lowest of " + number, due[number][0], () -> x.bound(0, store, false));
                is("highest of " + number, due[number][1], () -> x.bound(0, store, true));
            }
        }
        x.cook(0);
        is("by bounds, not by what is in it", -1, () -> x.bound(0, 1, false));
        x.bounds(0, -2, 3);
        is("by the bounds now", 10, () -> x.bound(0, 1, true));
        write("7=d".repeat(12));
        is("the last store of 12", 7, () -> x.bound(1, 11, true));
        noElement("none behind it", () -> x.bound(1, 12, true));
    }

    private void boundOutside() {
        promise(19, "Throws `IndexOutOfBoundsException` if there is no such spell");
        outside("none at all", () -> x.bound(0, 0, false));
        setUp();
        write("6=a");
        write("5=a");
        is("the last one", 5, () -> x.bound(1, 0, false));
        unchanged(() -> {
            outsideFrom(2, spell -> x.bound(spell, 0, false));
            outsideFrom(2, spell -> x.bound(spell, 99, true));
        });
    }

    private void boundOfNone() {
        promise(19, "Throws `NoSuchElementException` if the spell does not type, there is no such store, or it stores"
                + " broth");
        setUp();
        write("5=ac=c5=a");
        write("5=a6=a");
        is("the first store", 5, () -> x.bound(0, 0, false));
        is("the last store", 5, () -> x.bound(0, 2, true));
        unchanged(() -> {
            noElement("broth, lowest", () -> x.bound(0, 1, false));
            noElement("broth, highest", () -> x.bound(0, 1, true));
            noElement("it does not type, though the store would", () -> x.bound(1, 0, true));
            noElementFrom(3, store -> x.bound(0, store, false));
            noElementFrom(3, store -> x.bound(0, store, true));
        });
    }

    private void typed() {
        promise(20, "Returns how many spells type.", "Returns how many.");
        is("without spells", 0, x::typed);
        setUp();
        write("6=a");
        is("none of one", 0, x::typed);
        write("5=a");
        is("one of two", 1, x::typed);
        write("4=a");
        write("3=a");
        is("three of four", 3, x::typed);
        x.bounds(0, -3, 6);
        is("all", 4, x::typed);
        is("the account, too", 4, () -> x.account(2));
        x.bounds(0, -3, 3);
        is("one of four", 1, x::typed);
        x.erase(3);
        is("none of three", 0, x::typed);
    }

    /** The document does not say what is so; NOTES.md tells how it is taken. */
    private void isSafe() {
        promise(27, "Returns whether it is so.");
        is("without cauldrons", true, x::isSafe);
        x.drams(-9, 9);
        x.broth();
        unchanged(() -> is("without spells", true, x::isSafe));
        write("9=a");
        is("one that types", true, x::isSafe);
        write("10=a");
        is("one that does not type would boil over", true, x::isSafe);
        write("b!=a");
        write("a=b");
        is("and more of them", true, x::isSafe);
        x.erase(0);
        is("none that types", true, x::isSafe);
    }

    private void typedShare() {
        promise(32, "Returns the share of the spells that type, both numbers converted to float.",
                "Returns the share.");
        x.drams(-9, 9);
        String[] texts = {"10=a", "9=a", "8=a", "7=a"};
        float[] due = {0.0f, 1.0f / 2.0f, 2.0f / 3.0f, 3.0f / 4.0f};
        for (int spells = 0; spells < 4; spells++) {
            write(texts[spells]);
            is("spells " + (spells + 1), due[spells], x::typedShare);
        }
        x.bounds(0, -9, 7);
        is("one of four", 0.25f, x::typedShare);
        x.erase(1);
        is("one of three", 1.0f / 3.0f, x::typedShare);
        x.bounds(0, -9, 10);
        is("all of three", 1.0f, x::typedShare);
    }

    private void typedShareOfNone() {
        promise(32, "Throws `ArithmeticException` if there are none");
        is("a new object", "throws ArithmeticException", x::typedShare);
        x.drams(-9, 9);
        unchanged(() -> is("without spells", "throws ArithmeticException", x::typedShare));
        write("9=a");
        is("one", 1.0f, x::typedShare);
        x.erase(0);
        is("none any more", "throws ArithmeticException", x::typedShare);
    }
}
