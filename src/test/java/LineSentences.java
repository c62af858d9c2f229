/** The sentences of the document on orders, lines, means and accounts: promises 25, 26, 29 to 31 and 33. */
final class LineSentences extends Sentences {
    LineSentences(Check check, Document document) {
        super(check, document);
    }

    @Override
    void all() {
        ranked();
        rankedThrows();
        widest();
        widestThrows();
        tellCauldron();
        tellCauldronOfBroth();
        tellCauldronOutside();
        character();
        characterThrows();
        meanBits();
        meanBitsInOrder();
        meanBitsOfNone();
        accountOutside();
        accountsOfWhatThereIs();
        accountsSoFar();
        accountOfDrams();
        accountOfTheInput();
        accountOfChanges();
    }

    private void ranks(int... due) {
        for (int number = 0; number < due.length; number++) {
            int place = number;
            is("place " + place + " of " + due.length, due[place], () -> x.ranked(place));
        }
        noElement("no more than " + due.length, () -> x.ranked(due.length));
    }

    private void ranked() {
        promise(25, "Returns a spell by its tokens: the fewest first, of several the one with more stores, then the"
                + " lowest.", "- `place`: the place in that order, from 0", "Returns the spell.");
        x.drams(-99, 99);
        ranks();
        write("aa+=a");
        ranks(0);
        write("1=a2=a");
        ranks(1, 0);
        write("a=a");
        ranks(2, 1, 0);
        write("a1+=a");
        ranks(2, 1, 0, 3);
        x.erase(1);
        ranks(1, 0, 2);
        write("a=a");
        ranks(1, 3, 0, 2);
        x.erase(0);
        write("12=a".repeat(12));
        ranks(0, 2, 1, 3);
        x.erase(0);
        x.erase(1);
        write("a" + "~!".repeat(11) + "=a");
        ranks(0, 1, 2);
    }

    private void rankedThrows() {
        promise(25, "Throws `NoSuchElementException` if there is no such place");
        noElementFrom(0, x::ranked);
        x.drams(-99, 99);
        write("a=a");
        write("a=a");
        is("the last place", 1, () -> x.ranked(1));
        unchanged(() -> noElementFrom(2, x::ranked));
        x.erase(0);
        unchanged(() -> noElementFrom(1, x::ranked));
    }

    private void widest() {
        promise(26, "Returns the cauldron of drams with the most room, from the lowest number that it holds to the"
                + " highest one, of several the lowest.", "Returns the cauldron.");
        x.broth();
        x.drams(7, 7);
        is("no room, but of drams", 1, x::widest);
        x.drams(-8, -8);
        is("of several the lowest", 1, x::widest);
        x.drams(-9, -8);
        is("one more", 3, x::widest);
        x.drams(98, 99);
        is("the lowest, wherever they are", 3, x::widest);
        x.drams(0, 97);
        is("the last one", 5, x::widest);
        x.bounds(2, -99, -2);
        is("as much room in a lower one", 2, x::widest);
        x.bounds(1, -92, 7);
        is("and more than that", 1, x::widest);
        x.bounds(5, -99, 99);
        is("the most that there can be", 5, x::widest);
    }

    private void widestThrows() {
        promise(26, "Throws `NoSuchElementException` if there is none of drams");
        noElement("none at all", x::widest);
        x.broth();
        unchanged(() -> noElement("only broth", x::widest));
        x.drams(0, 0);
        is("one of drams", 1, x::widest);
        x.undo();
        noElement("none any more", x::widest);
    }

    private void tellsCauldron(int cauldron, String due) {
        is("length of " + due, due.length(), () -> x.tellCauldron(cauldron));
        same("the line", due, line());
    }

    private void tellCauldron() {
        promise(29, "Writes a cauldron, in place of the line before: its letter, \":\" and what is in it, cut to an"
                + " integer, and \"[\", the lowest number that it holds, \",\", the highest one and \"]\"",
                "; as in \"a:-3[-9,5]\".", "Returns the length of the line.");
        x.drams(-9, 5);
        x.pour(0, -3);
        tellsCauldron(0, "a:-3[-9,5]");
        x.drams(-99, 99);
        tellsCauldron(1, "b:0[-99,99]");
        x.pour(1, 99);
        tellsCauldron(1, "b:99[-99,99]");
        x.drams(-99, -99);
        tellsCauldron(2, "c:-99[-99,-99]");
        x.drams(7, 10);
        tellsCauldron(3, "d:7[7,10]");
        x.drams(0, 0);
        x.drams(0, 1);
        tellsCauldron(5, "f:0[0,1]");
        write("1=f");
        x.tell(0);
        same("another line", "1=f", line());
    }

    private void tellCauldronOfBroth() {
        promise(29, ", or \"~\" if it is of broth", "cut to an integer");
        x.broth();
        tellsCauldron(0, "a:0~");
        x.ladle(0, -99);
        tellsCauldron(0, "a:0~");
        x.ladle(0, -100);
        tellsCauldron(0, "a:-1~");
        x.ladle(0, 9999);
        tellsCauldron(0, "a:99~");
        x.broth();
        write("99~99~*99~+99~+=a0~a-=b");
        x.cook(0);
        tellsCauldron(0, "a:9999~");
        tellsCauldron(1, "b:-9999~");
    }

    private void tellCauldronOutside() {
        promise(29, "Throws `IndexOutOfBoundsException` if there is no such cauldron");
        outside("none at all", () -> x.tellCauldron(0));
        x.drams(0, 0);
        x.broth();
        x.tellCauldron(0);
        unchanged(() -> outsideFrom(2, x::tellCauldron));
        is("the last one", 4, () -> x.tellCauldron(1));
    }

    private void character() {
        promise(30, "Returns a character of the line, which is empty at first.", "- `index`: the index, from 0",
                "Returns the character.");
        noElement("empty at first", () -> x.character(0));
        x.drams(-9, 5);
        noElement("still empty", () -> x.character(0));
        x.tellCauldron(0);
        String due = "a:0[-9,5]";
        for (int number = 0; number < due.length(); number++) {
            int index = number;
            is("index " + index, due.charAt(index), () -> x.character(index));
        }
        x.pour(0, 5);
        is("the line stays as it was", '0', () -> x.character(2));
        x.undo();
        x.undo();
        is("undo leaves it", 'a', () -> x.character(0));
        x.save();
        x.restore();
        is("restore leaves it", ']', () -> x.character(8));
    }

    private void characterThrows() {
        promise(30, "Throws `NoSuchElementException` if there is none");
        noElementFrom(0, x::character);
        x.drams(-9, 5);
        write("12=a".repeat(12));
        x.tell(0);
        is("the last one", 'a', () -> x.character(47));
        noElementFrom(48, x::character);
        x.tellCauldron(0);
        is("the last one of a shorter line", ']', () -> x.character(8));
        noElementFrom(9, x::character);
    }

    private void meanBits() {
        promise(31, "Returns the mean of what is in all cauldrons, each converted to double",
                ", divided by how many there are, converted to double.",
                "Returns the bits of the mean, as by Double.doubleToLongBits.");
        x.drams(-99, 99);
        is("0", 0L, x::meanBits);
        x.pour(0, -99);
        is("one of drams", Double.doubleToLongBits(-99.0), x::meanBits);
        x.broth();
        is("two", Double.doubleToLongBits(-49.5), x::meanBits);
        x.ladle(1, 1);
        is("broth is converted", Double.doubleToLongBits((-99.0 + (double) 0.01f) / 2.0), x::meanBits);
        x.drams(1, 1);
        is("three", Double.doubleToLongBits((-99.0 + (double) 0.01f + 1.0) / 3.0), x::meanBits);
        x.broth();
        x.broth();
        x.broth();
        is("six", Double.doubleToLongBits((-99.0 + (double) 0.01f + 1.0) / 6.0), x::meanBits);
        x.pour(0, 0);
        x.ladle(1, 0);
        is("a sixth", Double.doubleToLongBits(1.0 / 6.0), x::meanBits);
        meanBitsOfPowers();
        write("99~99~*99~+99~+=b");
        x.cook(0);
        is("the most", Double.doubleToLongBits(10000.0 / 6.0), x::meanBits);
    }

    /** A power of two has no digit behind the first one. */
    private void meanBitsOfPowers() {
        for (int hundredths : new int[] {500, 1100, 2300, 4700, 9500, -200, -400, -700, -1300, 200, -100}) {
            x.ladle(1, hundredths);
            is("a power of two", Double.doubleToLongBits((hundredths / 100.0f + 1.0) / 6.0), x::meanBits);
        }
    }

    private void meanBitsInOrder() {
        promise(31, ", added by their numbers");
        x.broth();
        x.broth();
        x.broth();
        x.ladle(1, 1);
        write("bb*=b");
        for (int round = 0; round < 4; round++) {
            x.cook(0);
        }
        float small = 0.01f * 0.01f;
        small = small * small;
        small = small * small;
        small = small * small;
        is("a small one alone", Double.doubleToLongBits((double) small / 3.0), x::meanBits);
        write("99~=a0~a-=c");
        x.cook(1);
        is("is lost between great ones", Double.doubleToLongBits((99.0 + (double) small - 99.0) / 3.0), x::meanBits);
        same("wholly", 0.0, 99.0 + (double) small - 99.0);
        write("b=c99~=a0~a-=b");
        x.cook(2);
        is("and not behind them", Double.doubleToLongBits((double) small / 3.0), x::meanBits);
    }

    private void meanBitsOfNone() {
        promise(31, "Throws `ArithmeticException` if there are none");
        unchanged(() -> is("a new object", "throws ArithmeticException", x::meanBits));
        x.broth();
        is("one", 0L, x::meanBits);
        x.undo();
        is("none any more", "throws ArithmeticException", x::meanBits);
    }

    private void accountOutside() {
        promise(33, "Throws `IllegalArgumentException` if account is not 0 to 9", "Returns an account.",
                "Returns the account.");
        x.drams(0, 9);
        is("the first account", 1, () -> x.account(0));
        is("the last account", 1, () -> x.account(9));
        unchanged(() -> {
            for (int wrong : new int[] {-1, 10, 11, 256, Integer.MAX_VALUE, Integer.MIN_VALUE}) {
                illegal("account " + wrong, () -> x.account(wrong));
            }
        });
    }

    private void accounts(int first, int... due) {
        for (int number = 0; number < due.length; number++) {
            int account = first + number;
            is("account " + account, due[number], () -> x.account(account));
        }
    }

    private void accountsOfWhatThereIs() {
        promise(33, "- `account`: 0 for the cauldrons, 1 for the spells, 2 for those that type, 3 for the cauldrons of"
                + " broth");
        accounts(0, 0, 0, 0, 0);
        x.drams(-9, 9);
        accounts(0, 1, 0, 0, 0);
        x.broth();
        accounts(0, 2, 0, 0, 1);
        write("9=a");
        accounts(0, 2, 1, 1, 1);
        write("10=a");
        accounts(0, 2, 2, 1, 1);
        x.bounds(0, -9, 10);
        accounts(0, 2, 2, 2, 1);
        x.erase(0);
        accounts(0, 2, 1, 1, 1);
        x.undo();
        accounts(0, 2, 2, 2, 1);
        for (int cauldron = 2; cauldron < 6; cauldron++) {
            x.broth();
        }
        write("a=a");
        write("a=a");
        accounts(0, 6, 4, 4, 5);
    }

    private void accountsSoFar() {
        promise(33, ", 4 for how often spells were cooked so far, 5 for the stores so far, 6 for how often spells boiled"
                + " over so far");
        x.drams(-9, 9);
        write("1=a2=a");
        accounts(4, 0, 0, 0);
        x.pour(0, 7);
        accounts(4, 0, 0, 0);
        x.cook(0);
        accounts(4, 1, 2, 0);
        write("3=a10=a");
        boilsOver(1, 3, 3, 10);
        accounts(4, 1, 2, 1);
        x.cookAll();
        accounts(4, 2, 4, 1);
        write("a=a");
        x.cookAll();
        accounts(4, 4, 7, 1);
        boilsOver(1, 3, 3, 10);
        accounts(4, 4, 7, 2);
        x.erase(0);
        accounts(4, 4, 7, 2);
        x.undo();
        x.undo();
        accounts(4, 2, 4, 2);
    }

    private void accountOfDrams() {
        promise(33, ", 7 for the drams in all cauldrons");
        accounts(7, 0);
        x.drams(-99, -99);
        accounts(7, -99);
        x.drams(5, 9);
        accounts(7, -94);
        x.broth();
        x.ladle(2, 9999);
        accounts(7, -94);
        x.pour(1, 9);
        accounts(7, -90);
        anew();
        for (int cauldron = 0; cauldron < 6; cauldron++) {
            x.drams(99, 99);
        }
        accounts(7, 594);
    }

    private void accountOfTheInput() {
        promise(33, ", 8 for the characters of the input");
        accounts(8, 0);
        x.append(' ');
        accounts(8, 1);
        type("a".repeat(59));
        accounts(8, 60);
        is("a full input", "throws IllegalStateException", () -> x.append('a'));
        accounts(8, 60);
        illegal("a blank", x::write);
        accounts(8, 0);
    }

    private void accountOfChanges() {
        promise(33, ", 9 for the changes that can be undone");
        for (int changes = 0; changes < 9; changes++) {
            accounts(9, Math.min(changes, 6));
            if (changes == 0) {
                x.drams(-9, 9);
            } else {
                x.pour(0, changes);
            }
        }
        for (int changes = 5; changes >= 0; changes--) {
            is("are left", changes, x::undo);
            accounts(9, changes);
        }
        noElement("no more", x::undo);
        accounts(9, 0);
        is("the oldest ones stay", 2, () -> x.cauldronOf(0, 3));
    }
}
