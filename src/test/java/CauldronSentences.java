/** The sentences of the document on cauldrons: promises 1 to 6, and 11 to 13. */
final class CauldronSentences extends Sentences {
    private static final int[][] WRONG_BOUNDS = {{-100, 99}, {-99, 100}, {-100, -100}, {100, 100}, {1, 0}, {-98, -99},
        {99, 98}, {99, -99}, {Integer.MIN_VALUE, 0}, {0, Integer.MAX_VALUE}, {Integer.MIN_VALUE, Integer.MAX_VALUE},
        {Integer.MAX_VALUE, Integer.MIN_VALUE}, {256, 256}, {-256, -256}};

    CauldronSentences(Check check, Document document) {
        super(check, document);
    }

    @Override
    void all() {
        atMostSix();
        heldFromLowestToHighest();
        nearestToZeroAtFirst();
        brothAtFirst();
        newObject();
        drams();
        dramsOutOfRange();
        dramsRefused();
        broth();
        brothRefused();
        pour();
        pourOutside();
        pourRefused();
        ladle();
        ladleOutside();
        ladleOutOfRange();
        ladleRefused();
        bounds();
        boundsOfMany();
        boundsOutside();
        boundsOutOfRange();
        boundsRefused();
        numberOutside();
        numberOfNoWhat();
        numberOfKindAndBounds();
        numberCut();
        numberOfStores();
        numberOfSpells();
        cups();
        cupsOutside();
        cupsOfDrams();
        bits();
        bitsOutside();
    }

    private void atMostSix() {
        term(2, "Cauldrons", "There are at most 6 cauldrons, numbered from 0 and told by letters from a to f.");
        for (int number = 0; number < 6; number++) {
            int cauldron = number;
            outside("not yet " + number, () -> x.bits(cauldron));
            is("number " + number, number, () -> cauldron % 2 == 0 ? x.drams(-9, 9) : x.broth());
            x.tellCauldron(number);
            is("letter of " + number, (char) ('a' + number), () -> x.character(0));
        }
        is("the letters a and f tell the first and the last one", 0, () -> write("a7+~=f"));
        is("which is the number 5", 1, () -> x.cook(0));
        is("and holds it", 7.0f, () -> x.cups(5));
        refused("a seventh one of drams", () -> x.drams(-9, 9), 1, 6);
        refused("a seventh one of broth", x::broth, 1, 6);
        outsideFrom(6, x::bits);
    }

    private void heldFromLowestToHighest() {
        term(4, "Cauldrons", "One of drams holds an integer from its lowest to its highest number");
        x.drams(-9, 20);
        is("the lowest", 0, () -> x.pour(0, -9));
        is("the highest", -9, () -> x.pour(0, 20));
        refused("below the lowest", () -> x.pour(0, -10), 3, -10);
        refused("above the highest", () -> x.pour(0, 21), 3, 21);
        x.drams(7, 7);
        is("the only one", 7, () -> x.pour(1, 7));
        refused("below the only one", () -> x.pour(1, 6), 3, 6);
        refused("above the only one", () -> x.pour(1, 8), 3, 8);
    }

    private void nearestToZeroAtFirst() {
        term(2, "Cauldrons", ", at first that of these which is the nearest to 0, or 0 if this is between them.");
        int[][] rows = {{1, 99, 1}, {-99, -1, -1}, {0, 5, 0}, {-5, 0, 0}, {-1, 1, 0}, {-99, 99, 0}, {99, 99, 99},
            {-99, -99, -99}, {0, 0, 0}, {-1, 99, 0}, {-99, 1, 0}, {98, 99, 98}};
        for (int row = 0; row < rows.length; row++) {
            int[] due = rows[row];
            if (row == 6) {
                anew();
            }
            x.drams(due[0], due[1]);
            int cauldron = row % 6;
            is("from " + due[0] + " to " + due[1], due[2], () -> x.cauldronOf(cauldron, 3));
        }
    }

    private void brothAtFirst() {
        term(3, "Cauldrons", "One of broth holds a float, at first 0.0f.");
        x.broth();
        is("cups", 0.0f, () -> x.cups(0));
        is("bits, above zero", 0, () -> x.bits(0));
        x.ladle(0, 1);
        is("a float", 0.01f, () -> x.cups(0));
    }

    private void newObject() {
        promise(1, "Creates a cookbook without cauldrons and spells.");
        for (int number = 0; number < 10; number++) {
            int account = number;
            is("account " + number, 0, () -> x.account(account));
        }
        outside("no cauldron", () -> x.cauldronOf(0, 0));
        outside("no spell", () -> x.spellOf(0, 0));
        is("none types", 0, x::typed);
        refused("nothing is cooked", x::cookAll, 9, 0);
        CauldronTypes other = x;
        other.broth();
        anew();
        is("each object has its own", 0, () -> x.account(0));
        noElement("and its own history", x::undo);
    }

    private void drams() {
        promise(2, "Sets a cauldron of drams up.", "Returns the number of the cauldron.");
        is("the first", 0, () -> x.drams(-99, 99));
        is("there is one", 1, () -> x.account(0));
        is("of drams", 0, () -> x.cauldronOf(0, 0));
        is("its lowest", -99, () -> x.cauldronOf(0, 1));
        is("its highest", 99, () -> x.cauldronOf(0, 2));
        is("the second", 1, () -> x.drams(5, 5));
        is("its lowest", 5, () -> x.cauldronOf(1, 1));
        is("its highest", 5, () -> x.cauldronOf(1, 2));
        x.undo();
        is("the second again", 1, () -> x.drams(-7, 8));
        is("its lowest now", -7, () -> x.cauldronOf(1, 1));
        is("what is in it now", 0, () -> x.cauldronOf(1, 3));
    }

    private void dramsOutOfRange() {
        promise(2, "Throws `IllegalArgumentException` if a number is not from -99 to 99, or the lowest one is above the"
                + " highest one");
        is("the least and the most", 0, () -> x.drams(-99, 99));
        is("least", 1, () -> x.drams(-99, -99));
        is("most", 2, () -> x.drams(99, 99));
        is("the lowest one is the highest one", 3, () -> x.drams(4, 4));
        unchanged(() -> wrongBounds(-1));
        x.drams(0, 0);
        x.drams(0, 0);
        illegal("ahead of what is refused", () -> x.drams(100, 99));
        noElement("and no reason is kept", () -> x.reason(false, false));
    }

    /** Tells wrong bounds to drams, or to bounds of a cauldron. */
    private void wrongBounds(int cauldron) {
        for (int[] bounds : WRONG_BOUNDS) {
            illegal(bounds[0] + " to " + bounds[1],
                    () -> cauldron < 0 ? x.drams(bounds[0], bounds[1]) : x.bounds(cauldron, bounds[0], bounds[1]));
        }
    }

    private void dramsRefused() {
        promise(2, "Throws `UnsupportedOperationException` if it is refused for the reason 1; the reason is then kept");
        for (int cauldron = 0; cauldron < 5; cauldron++) {
            x.broth();
        }
        is("the sixth", 5, () -> x.drams(-99, 99));
        unchangedButKept(() -> refused("the seventh", () -> x.drams(-99, 99), 1, 6));
        x.undo();
        is("the sixth again", 5, () -> x.drams(1, 2));
        is("the reason stays", 1, () -> x.reason(false, false));
    }

    private void broth() {
        promise(3, "Sets a cauldron of broth up.", "Returns the number of the cauldron.");
        for (int number = 0; number < 6; number++) {
            is("the next one", number, x::broth);
            int cauldron = number;
            is("of broth", 1, () -> x.cauldronOf(cauldron, 0));
            is("they are counted", number + 1, () -> x.account(3));
        }
    }

    private void brothRefused() {
        promise(3, "Throws `UnsupportedOperationException` if it is refused for the reason 1; the reason is then kept");
        for (int cauldron = 0; cauldron < 5; cauldron++) {
            x.drams(-99, 99);
        }
        is("the sixth", 5, x::broth);
        unchangedButKept(() -> refused("the seventh", x::broth, 1, 6));
        x.undo();
        is("the sixth again", 5, x::broth);
        is("the reason stays", 6, () -> x.reason(false, true));
    }

    private void pour() {
        promise(4, "Pours drams into a cauldron, in place of what was in it.", "Returns how many were in it before.");
        x.drams(3, 9);
        x.drams(-99, 99);
        is("what it had at first", 3, () -> x.pour(0, 5));
        is("what was poured", 5, () -> x.pour(0, 9));
        is("is in place of that", 9, () -> x.cauldronOf(0, 3));
        is("not in another one", 0, () -> x.pour(1, -99));
        is("the least", -99, () -> x.pour(1, 99));
        is("the most", 99, () -> x.pour(1, 99));
    }

    private void pourOutside() {
        promise(4, "Throws `IndexOutOfBoundsException` if there is no such cauldron");
        outside("none at all", () -> x.pour(0, 0));
        x.broth();
        x.drams(0, 1);
        is("the last one", 0, () -> x.pour(1, 1));
        unchanged(() -> outsideFrom(2, cauldron -> x.pour(cauldron, 1000)));
    }

    private void pourRefused() {
        promise(4, "Throws `UnsupportedOperationException` if it is refused for the reason 2 or 3; the reason is then"
                + " kept");
        x.drams(-9, 20);
        x.broth();
        unchangedButKept(() -> {
            refused("of broth", () -> x.pour(1, 0), 2, 1);
            refused("of broth, ahead of how many", () -> x.pour(1, 100), 2, 1);
            refused("one too few", () -> x.pour(0, -10), 3, -10);
            refused("one too many", () -> x.pour(0, 21), 3, 21);
            refused("the least number", () -> x.pour(0, Integer.MIN_VALUE), 3, Integer.MIN_VALUE);
            refused("the greatest number", () -> x.pour(0, Integer.MAX_VALUE), 3, Integer.MAX_VALUE);
            refused("what wraps around to 0", () -> x.pour(0, 256), 3, 256);
        });
    }

    private void ladle() {
        promise(5, "Pours broth into a cauldron, in place of what was in it.",
                "Returns the bits of what was in it before, as by Float.floatToIntBits.");
        x.broth();
        x.broth();
        is("what it had at first", 0, () -> x.ladle(0, 250));
        is("what was ladled", Float.floatToIntBits(2.5f), () -> x.ladle(0, 0));
        is("zero, in place of that", 0, () -> x.ladle(0, 1));
        is("a hundredth", Float.floatToIntBits(0.01f), () -> x.ladle(0, -1));
        is("less a hundredth", Float.floatToIntBits(-0.01f), () -> x.ladle(0, 0));
        write("b0~1~-*=b");
        x.cook(0);
        is("not in another one, and zero below zero", Integer.MIN_VALUE, () -> x.ladle(1, 0));
        is("zero above zero", 0, () -> x.ladle(1, 0));
    }

    private void ladleOutside() {
        promise(5, "Throws `IndexOutOfBoundsException` if there is no such cauldron");
        outside("none at all", () -> x.ladle(0, 0));
        x.drams(-9, 9);
        x.broth();
        is("the last one", 0, () -> x.ladle(1, 1));
        unchanged(() -> {
            outsideFrom(2, cauldron -> x.ladle(cauldron, 0));
            outsideFrom(2, cauldron -> x.ladle(cauldron, 10000));
        });
    }

    private void ladleOutOfRange() {
        promise(5, "Throws `IllegalArgumentException` if the number is out of range",
                "- `hundredths`: how much, in hundredths of a cup, -9999 to 9999");
        x.drams(-9, 9);
        x.broth();
        is("the most", 0, () -> x.ladle(1, 9999));
        is("is just below 100 cups", 99.99f, () -> x.cups(1));
        x.ladle(1, -9999);
        is("the least is just above -100 cups", -99.99f, () -> x.cups(1));
        unchanged(() -> {
            for (int wrong : new int[] {10000, -10000, Integer.MAX_VALUE, Integer.MIN_VALUE, 65536, -65536}) {
                illegal("out of range " + wrong, () -> x.ladle(1, wrong));
                illegal("ahead of what is refused " + wrong, () -> x.ladle(0, wrong));
            }
        });
    }

    private void ladleRefused() {
        promise(5, "Throws `UnsupportedOperationException` if it is refused for the reason 4; the reason is then kept");
        x.broth();
        x.drams(-9, 9);
        unchangedButKept(() -> {
            refused("of drams", () -> x.ladle(1, 9999), 4, 1);
            refused("even nothing", () -> x.ladle(1, 0), 4, 1);
        });
    }

    private void bounds() {
        promise(6, "Tells anew which numbers of drams a cauldron holds.");
        x.drams(-9, 20);
        x.drams(-9, 20);
        is("the widest ones", 0, () -> x.bounds(0, -99, 99));
        is("the lowest", 0, () -> x.pour(0, -99));
        is("the highest", -99, () -> x.pour(0, 99));
        is("just what is in it", 0, () -> x.bounds(0, 99, 99));
        is("the lowest now", 99, () -> x.cauldronOf(0, 1));
        is("the highest now", 99, () -> x.cauldronOf(0, 2));
        is("what is in it stays", 99, () -> x.cauldronOf(0, 3));
        refused("no other number", () -> x.pour(0, 98), 3, 98);
        is("another one stays as it was", -9, () -> x.cauldronOf(1, 1));
        is("with both its bounds", 20, () -> x.cauldronOf(1, 2));
    }

    private void boundsOfMany() {
        promise(6, "Returns how many spells type then that did not, less how many do not any more.");
        x.drams(-9, 20);
        x.drams(-9, 9);
        is("without spells", 0, () -> x.bounds(1, -9, 10));
        write("a=b");
        write("11=b");
        write("b=a");
        write("b3-=b");
        is("one more", 1, () -> x.bounds(1, -9, 11));
        is("another one more", 1, () -> x.bounds(1, -9, 20));
        is("one less", -1, () -> x.bounds(1, -10, 20));
        is("one more again", 1, () -> x.bounds(1, -9, 20));
        is("two less", -2, () -> x.bounds(1, -9, 0));
        is("one more, and one less", 0, () -> x.bounds(1, -10, 11));
        is("none in place of one", -1, () -> x.bounds(1, -10, 10));
        x.erase(3);
        write("a=b");
        is("one in place of none", 1, () -> x.bounds(1, -9, 0));
        is("three more, and one less", 2, () -> x.bounds(1, -20, 20));
        is("all four, by the bounds of the other one", 1, () -> x.bounds(0, -20, 20));
        is("three less", -3, () -> x.bounds(1, 0, 0));
        is("nothing else", 0, () -> x.bounds(1, 0, 0));
    }

    private void boundsOutside() {
        promise(6, "Throws `IndexOutOfBoundsException` if there is no such cauldron");
        outside("none at all", () -> x.bounds(0, 0, 0));
        x.broth();
        x.drams(-9, 9);
        is("the last one", 0, () -> x.bounds(1, 0, 9));
        unchanged(() -> {
            outsideFrom(2, cauldron -> x.bounds(cauldron, 0, 0));
            outsideFrom(2, cauldron -> x.bounds(cauldron, 1, 0));
        });
    }

    private void boundsOutOfRange() {
        promise(6, "Throws `IllegalArgumentException` if a number is not from -99 to 99, or the lowest one is above the"
                + " highest one");
        x.drams(-9, 9);
        x.broth();
        is("the last numbers that are allowed", 0, () -> x.bounds(0, -99, 99));
        is("the lowest one is the highest one", 0, () -> x.bounds(0, 0, 0));
        x.pour(0, 0);
        unchanged(() -> {
            wrongBounds(0);
            illegal("ahead of broth", () -> x.bounds(1, 1, 0));
            illegal("ahead of what is in it", () -> x.bounds(0, 1, 100));
        });
    }

    private void boundsRefused() {
        promise(6, "Throws `UnsupportedOperationException` if it is refused for the reason 2, or 3, for what is in it;"
                + " the reason is then kept");
        x.broth();
        x.drams(-9, 20);
        x.pour(1, 4);
        is("the lowest is in it", 0, () -> x.bounds(1, 4, 20));
        is("the highest is in it", 0, () -> x.bounds(1, -9, 4));
        unchangedButKept(() -> {
            refused("of broth", () -> x.bounds(0, -99, 99), 2, 0);
            refused("the lowest is above it", () -> x.bounds(1, 5, 20), 3, 4);
            refused("the highest is below it", () -> x.bounds(1, -9, 3), 3, 4);
            refused("far from it", () -> x.bounds(1, -99, -99), 3, 4);
        });
    }

    private void numberOutside() {
        promise(11, "Throws `IndexOutOfBoundsException` if there is no such cauldron");
        outside("none at all", () -> x.cauldronOf(0, 0));
        x.drams(4, 9);
        is("the last one", 4, () -> x.cauldronOf(0, 3));
        unchanged(() -> {
            outsideFrom(1, cauldron -> x.cauldronOf(cauldron, 0));
            outsideFrom(1, cauldron -> x.cauldronOf(cauldron, 7));
        });
    }

    private void numberOfNoWhat() {
        promise(11, "Throws `IllegalArgumentException` if what is not 0 to 6", "Returns a number of a cauldron.",
                "Returns the number.");
        x.drams(4, 9);
        is("the first what", 0, () -> x.cauldronOf(0, 0));
        is("the last what", 0, () -> x.cauldronOf(0, 6));
        unchanged(() -> {
            for (int wrong : new int[] {-1, 7, 8, 256, Integer.MAX_VALUE, Integer.MIN_VALUE}) {
                illegal("what " + wrong, () -> x.cauldronOf(0, wrong));
            }
        });
    }

    private void numberOfKindAndBounds() {
        promise(11, "- `what`: 0 for 1 if it is of broth, and 0 if it is of drams, 1 for the lowest number that it"
                + " holds, -99 for one of broth, 2 for the highest one, 99 for one of broth");
        x.drams(-9, 20);
        x.broth();
        x.drams(-98, 98);
        int[][] due = {{0, -9, 20}, {1, -99, 99}, {0, -98, 98}};
        for (int cauldron = 0; cauldron < 3; cauldron++) {
            for (int what = 0; what < 3; what++) {
                int number = cauldron;
                int which = what;
                is("cauldron " + cauldron + ", what " + what, due[cauldron][what], () -> x.cauldronOf(number, which));
            }
        }
    }

    private void numberCut() {
        promise(11, ", 3 for what is in it, cut to an integer");
        x.drams(-99, 99);
        x.broth();
        x.pour(0, -99);
        is("drams", -99, () -> x.cauldronOf(0, 3));
        int[][] rows = {{99, 0}, {-99, 0}, {100, 1}, {-100, -1}, {199, 1}, {-199, -1}, {9999, 99}, {-9999, -99},
            {0, 0}};
        for (int[] row : rows) {
            x.ladle(1, row[0]);
            is("hundredths " + row[0], row[1], () -> x.cauldronOf(1, 3));
        }
        write("99~99~*99~+99~+=b");
        x.cook(0);
        is("the most", 9999, () -> x.cauldronOf(1, 3));
        write("0~b-=b");
        x.cook(1);
        is("the least", -9999, () -> x.cauldronOf(1, 3));
    }

    private void numberOfStores() {
        promise(11, ", 4 for how often something was stored in it so far");
        x.drams(-9, 9);
        x.broth();
        is("at first", 0, () -> x.cauldronOf(0, 4));
        x.pour(0, 9);
        x.ladle(1, 9);
        is("poured is not stored", 0, () -> x.cauldronOf(0, 4));
        is("nor is what is ladled", 0, () -> x.cauldronOf(1, 4));
        write("1=a2=aa~=b");
        x.cook(0);
        is("twice by one spell", 2, () -> x.cauldronOf(0, 4));
        is("once in the other one", 1, () -> x.cauldronOf(1, 4));
        x.cook(0);
        is("the same once more", 4, () -> x.cauldronOf(0, 4));
        write("3=a10=a");
        boilsOver(1, 3, 3, 10);
        is("not by one that boils over", 4, () -> x.cauldronOf(0, 4));
        x.cookAll();
        is("by all that type", 6, () -> x.cauldronOf(0, 4));
        x.erase(0);
        is("by one that is erased, too", 6, () -> x.cauldronOf(0, 4));
        x.undo();
        x.undo();
        is("not by what is undone", 4, () -> x.cauldronOf(0, 4));
    }

    private void numberOfSpells() {
        promise(11, ", 5 for how many spells take something from it, 6 for how many store something in it");
        x.drams(-99, 99);
        x.drams(-99, 99);
        String[] texts = {"", "aaa++=b", "a=b1=bb=a", "b=a2=a", "ab+=a1=b"};
        int[][] due = {{0, 0, 0, 0}, {1, 0, 0, 1}, {2, 1, 1, 2}, {2, 2, 2, 2}, {3, 3, 3, 3}};
        for (int spells = 0; spells < texts.length; spells++) {
            if (spells > 0) {
                write(texts[spells]);
            }
            for (int number = 0; number < 4; number++) {
                int cauldron = number % 2;
                int what = 5 + number / 2;
                is("spells " + spells + ", cauldron " + cauldron + ", what " + what, due[spells][number],
                        () -> x.cauldronOf(cauldron, what));
            }
        }
        x.erase(1);
        is("an erased one takes nothing", 2, () -> x.cauldronOf(1, 5));
        is("and stores nothing", 2, () -> x.cauldronOf(0, 6));
    }

    private void cups() {
        promise(12, "Returns what is in a cauldron of broth.", "Returns how many cups.");
        x.broth();
        x.drams(-9, 9);
        is("at first", 0.0f, () -> x.cups(0));
        x.ladle(0, -9999);
        is("the least that is ladled", -99.99f, () -> x.cups(0));
        x.ladle(0, 9999);
        is("the most", 99.99f, () -> x.cups(0));
        write("b~1~-b~*=a");
        x.cook(0);
        is("a zero below zero", -0.0f, () -> x.cups(0));
    }

    private void cupsOutside() {
        promise(12, "Throws `IndexOutOfBoundsException` if there is no such cauldron");
        outside("none at all", () -> x.cups(0));
        x.drams(-9, 9);
        x.broth();
        is("the last one", 0.0f, () -> x.cups(1));
        unchanged(() -> outsideFrom(2, x::cups));
    }

    private void cupsOfDrams() {
        promise(12, "Throws `NoSuchElementException` if it is of drams");
        x.drams(0, 0);
        x.broth();
        x.drams(-9, 9);
        unchanged(() -> {
            noElement("the first one", () -> x.cups(0));
            noElement("the last one", () -> x.cups(2));
        });
        is("one of broth", 0.0f, () -> x.cups(1));
    }

    private void bits() {
        promise(13, "Returns the bits of what is in a cauldron, converted to float if it is of drams.",
                "Returns the bits, as by Float.floatToIntBits.");
        x.drams(-99, 99);
        x.broth();
        for (int many : new int[] {-99, -64, -2, -1, 0, 1, 2, 3, 64, 99}) {
            x.pour(0, many);
            is("drams " + many, Float.floatToIntBits((float) many), () -> x.bits(0));
            x.ladle(1, many);
            is("hundredths " + many, Float.floatToIntBits((float) many / 100.0f), () -> x.bits(1));
        }
        x.ladle(1, 9999);
        is("the most that is ladled", Float.floatToIntBits(99.99f), () -> x.bits(1));
        bitsOfTheGreatest();
        bitsTowardsZero(1, 1);
        bitsTowardsZero(-1, 1);
        bitsTowardsZero(3, 50);
    }

    private void bitsOutside() {
        promise(13, "Throws `IndexOutOfBoundsException` if there is no such cauldron");
        outside("none at all", () -> x.bits(0));
        x.drams(1, 9);
        x.broth();
        is("the last one", 0, () -> x.bits(1));
        unchanged(() -> outsideFrom(2, x::bits));
    }

    private void bitsOfTheGreatest() {
        anew();
        x.broth();
        write("99~99~*99~+99~+=a");
        x.cook(0);
        is("the most", Float.floatToIntBits(9999.0f), () -> x.bits(0));
        write("0~a-=a");
        x.cook(1);
        is("the least", Float.floatToIntBits(-9999.0f), () -> x.bits(0));
    }

    /** Broth is multiplied until it is 0, by way of the floats that have no leading digit. */
    private void bitsTowardsZero(int hundredths, int factor) {
        anew();
        x.broth();
        x.broth();
        x.ladle(0, hundredths);
        x.ladle(1, factor);
        write("ab*=a");
        float product = (float) hundredths / 100.0f;
        for (int round = 0; round < 160 && product != 0.0f; round++) {
            x.cook(0);
            product = product * ((float) factor / 100.0f);
            is("towards 0, round " + round, Float.floatToIntBits(product), () -> x.bits(0));
        }
        same("there is 0 at the end", 0.0f, Math.abs(product));
    }
}
