/** For each promise of the document: ordinary inputs, the edges that it names, and wrong inputs. */
public final class PromiseTest {
    /** 1000000 drams on one spoon, in 11 tokens. */
    private static final String MILLION = "1010*10*10*10*10*";

    private final Check check = new Check();
    private CauldronTypes x;

    public static void main(String[] arguments) {
        PromiseTest test = new PromiseTest();
        test.newObject();
        test.drams();
        test.broth();
        test.pour();
        test.ladle();
        test.bounds();
        test.write();
        test.errorPositions();
        test.writeRefused();
        test.erase();
        test.cook();
        test.cookBoilsOver();
        test.cookBroth();
        test.cookAll();
        test.cauldronOf();
        test.cupsAndBits();
        test.spellOfAndToken();
        test.types();
        test.bound();
        test.typed();
        test.would();
        test.boilsAndLasts();
        test.ranked();
        test.widest();
        test.isSafe();
        test.lines();
        test.meanBits();
        test.typedShare();
        test.account();
        test.append();
        test.reason();
        test.undo();
        test.undoLeaves();
        test.saveAndRestore();
        test.check.end("PromiseTest");
    }

    private void fresh() {
        x = new CauldronTypes();
    }

    private int write(String text) {
        for (int index = 0; index < text.length(); index++) {
            x.append(text.charAt(index));
        }
        return x.write();
    }

    private String line(int length) {
        StringBuilder line = new StringBuilder();
        for (int index = 0; index < length; index++) {
            line.append(x.character(index));
        }
        return line.toString();
    }

    private void why(String what, int reason, int detail) {
        check.is(what + ", reason", reason, () -> x.reason(false, false));
        check.is(what + ", detail", detail, () -> x.reason(false, true));
        check.noElement(what + ", cause", () -> x.reason(true, false));
        check.noElement(what + ", detail of the cause", () -> x.reason(true, true));
    }

    private void whyBoiled(String what, int place, int cause, int detail) {
        check.is(what + ", reason", 6, () -> x.reason(false, false));
        check.is(what + ", place", place, () -> x.reason(false, true));
        check.is(what + ", cause", cause, () -> x.reason(true, false));
        check.is(what + ", detail of the cause", detail, () -> x.reason(true, true));
    }

    private void newObject() {
        fresh();
        for (int account = 0; account < 10; account++) {
            int number = account;
            check.is("1: account " + account, 0, () -> x.account(number));
        }
        check.is("1: typed", 0, x::typed);
        check.outside("1: no cauldron", () -> x.bits(0));
        check.outside("1: no spell", () -> x.types(0));
        check.noElement("1: no character", () -> x.character(0));
        check.noElement("1: no change", x::undo);
        check.noElement("1: no reason", () -> x.reason(false, false));
        check.noElement("1: no error position", x::errorPosition);
        check.is("1: nothing saved", "throws IllegalStateException", x::restore);
        CauldronTypes other = new CauldronTypes();
        other.broth();
        check.is("1: an object of its own", 0, () -> x.account(0));
    }

    private void drams() {
        fresh();
        check.is("2: first", 0, () -> x.drams(-9, 5));
        check.is("2: 0 lies between", 0, () -> x.cauldronOf(0, 3));
        check.is("2: widest bounds", 1, () -> x.drams(-99, 99));
        check.is("2: above 0", 2, () -> x.drams(3, 50));
        check.is("2: the nearest above 0", 3, () -> x.cauldronOf(2, 3));
        check.is("2: below 0", 3, () -> x.drams(-50, -4));
        check.is("2: the nearest below 0", -4, () -> x.cauldronOf(3, 3));
        check.illegal("2: low below -99", () -> x.drams(-100, 0));
        check.illegal("2: high above 99", () -> x.drams(0, 100));
        check.illegal("2: low above 99", () -> x.drams(100, 100));
        check.illegal("2: high below -99", () -> x.drams(-100, -100));
        check.illegal("2: low above high", () -> x.drams(5, 4));
        check.is("2: low is high", 4, () -> x.drams(99, 99));
        check.is("2: the sixth", 5, () -> x.drams(-99, -99));
        check.noElement("2: nothing was refused", () -> x.reason(false, false));
        check.illegal("2: illegal ahead of refused", () -> x.drams(1, 0));
        check.noElement("2: illegal keeps no reason", () -> x.reason(false, false));
        check.refuses("2: the seventh", () -> x.drams(0, 0));
        why("2", 1, 6);
        check.is("2: refused changes nothing", 6, () -> x.account(0));
        check.is("2: changes", 6, () -> x.account(9));
    }

    private void broth() {
        fresh();
        for (int cauldron = 0; cauldron < 6; cauldron++) {
            check.is("3: number", cauldron, x::broth);
        }
        check.is("3: at first", 0.0f, () -> x.cups(5));
        check.is("3: bits at first", 0, () -> x.bits(5));
        check.refuses("3: the seventh", x::broth);
        why("3", 1, 6);
        check.is("3: still six", 6, () -> x.account(3));
    }

    private void pour() {
        fresh();
        x.drams(-9, 20);
        x.broth();
        check.is("4: before", 0, () -> x.pour(0, -9));
        check.is("4: lowest", -9, () -> x.pour(0, 20));
        check.is("4: highest", 20, () -> x.pour(0, 4));
        check.is("4: it is in", 4, () -> x.cauldronOf(0, 3));
        check.is("4: no store", 0, () -> x.cauldronOf(0, 4));
        check.refuses("4: above", () -> x.pour(0, 21));
        why("4: above", 3, 21);
        check.refuses("4: below", () -> x.pour(0, -10));
        why("4: below", 3, -10);
        check.refuses("4: broth, ahead of how many", () -> x.pour(1, 1000));
        why("4: broth", 2, 1);
        check.outside("4: none at 2", () -> x.pour(2, 0));
        check.outside("4: none at -1", () -> x.pour(-1, 0));
        check.is("4: refused changes nothing", 4, () -> x.cauldronOf(0, 3));
        check.is("4: changes", 5, () -> x.account(9));
    }

    private void ladle() {
        fresh();
        x.drams(0, 0);
        x.broth();
        check.is("5: before", 0, () -> x.ladle(1, 250));
        check.is("5: bits before", Float.floatToIntBits(2.5f), () -> x.ladle(1, -9999));
        check.is("5: least", -99.99f, () -> x.cups(1));
        check.is("5: bits of the least", Float.floatToIntBits(-99.99f), () -> x.ladle(1, 9999));
        check.is("5: most", 99.99f, () -> x.cups(1));
        for (int hundredths = -40; hundredths < 41; hundredths++) {
            int number = hundredths;
            x.ladle(1, number);
            check.is("5: divided", Float.floatToIntBits((float) number / 100.0f), () -> x.bits(1));
        }
        check.illegal("5: too much", () -> x.ladle(1, 10000));
        check.illegal("5: too little", () -> x.ladle(1, -10000));
        check.noElement("5: illegal keeps no reason", () -> x.reason(false, false));
        check.illegal("5: illegal ahead of refused", () -> x.ladle(0, 10000));
        check.refuses("5: drams", () -> x.ladle(0, 1));
        why("5", 4, 0);
        check.outside("5: none at 2", () -> x.ladle(2, 10000));
        check.outside("5: none at -1", () -> x.ladle(-1, 0));
    }

    private void bounds() {
        fresh();
        x.drams(-9, 20);
        x.drams(3, 50);
        x.broth();
        x.pour(0, 4);
        write("a2*=b");
        write("a=a");
        write("b=a");
        check.is("6: one types now", 1, () -> x.bounds(0, 2, 20));
        check.is("6: the lowest", 2, () -> x.cauldronOf(0, 1));
        check.is("6: the highest", 20, () -> x.cauldronOf(0, 2));
        check.is("6: what is in stays", 4, () -> x.cauldronOf(0, 3));
        check.is("6: one more and one less", 0, () -> x.bounds(0, 3, 50));
        check.is("6: one less", -1, () -> x.bounds(0, 3, 49));
        check.is("6: nothing else", 0, () -> x.bounds(0, 3, 48));
        check.is("6: just what is in it", 1, () -> x.bounds(0, 4, 4));
        check.refuses("6: above what is in", () -> x.bounds(0, 5, 9));
        why("6: above", 3, 4);
        check.refuses("6: below what is in", () -> x.bounds(0, -5, 3));
        why("6: below", 3, 4);
        check.refuses("6: broth", () -> x.bounds(2, 5, 9));
        why("6: broth", 2, 2);
        check.illegal("6: illegal ahead of refused", () -> x.bounds(2, 5, 4));
        check.illegal("6: too low", () -> x.bounds(0, -100, 4));
        check.illegal("6: too high", () -> x.bounds(0, 4, 100));
        check.outside("6: none at 3", () -> x.bounds(3, 5, 4));
        check.outside("6: none at -1", () -> x.bounds(-1, 0, 0));
        check.is("6: refused changes nothing", 4, () -> x.cauldronOf(0, 2));
    }

    private void write() {
        fresh();
        x.drams(0, 9);
        x.broth();
        check.is("7: first", 0, () -> write("07=a"));
        check.is("7: the input is empty", 0, () -> x.account(8));
        check.is("7: kinds are no error", 1, () -> write("a!~~b+=b"));
        check.is("7: 24 tokens", 2, () -> write("1=a1=a1=a1=a1=a1=a1=a1=a1=a1=a1=a1=a"));
        check.is("7: tokens", 24, () -> x.spellOf(2, 0));
        check.is("7: five spoons", 3, () -> write("12345678a+-*~!=b=a"));
        check.is("7: 60 characters would not go in", "throws IllegalArgumentException", () -> write("12=a".repeat(15)));
        check.is("7: malformed empties the input", 0, () -> x.account(8));
        check.is("7: changes", 6, () -> x.account(9));
    }

    private void errorPosition(String text, int due) {
        check.illegal("7: malformed " + text, () -> write(text));
        check.is("35: of " + text, due, x::errorPosition);
    }

    private void errorPositions() {
        fresh();
        check.noElement("35: none kept", x::errorPosition);
        errorPosition("", 0);
        errorPosition("q", 0);
        errorPosition("a", 1);
        errorPosition("a=", 2);
        errorPosition("a=g", 2);
        errorPosition("a=1", 2);
        errorPosition("a==", 2);
        errorPosition("a+", 1);
        errorPosition("ab+", 3);
        errorPosition("ab+-", 3);
        errorPosition("=a", 0);
        errorPosition("~", 0);
        errorPosition("!", 0);
        errorPosition("a=a*", 3);
        errorPosition("a=a~", 3);
        errorPosition("a=a=a", 3);
        errorPosition("aaaaaa", 5);
        errorPosition("aaaaa", 5);
        errorPosition("123456789", 9);
        errorPosition("1234567890", 10);
        errorPosition("12345678901", 10);
        errorPosition("123", 3);
        errorPosition("99 ", 2);
        errorPosition("a=A", 2);
        errorPosition("G=a", 0);
        errorPosition("g=a", 0);
        errorPosition("a/=a", 1);
        errorPosition("a:=a", 1);
        errorPosition("a=ab", 4);
        errorPosition("a" + "~".repeat(22), 23);
        errorPosition("a" + "~".repeat(23), 23);
        errorPosition("a" + "!".repeat(22) + "==", 24);
        errorPosition("ab" + "~".repeat(21), 22);
        errorPosition("ab" + "~".repeat(20) + "=a~", 24);
        errorPosition("1=a".repeat(12) + "1", 36);
        errorPosition("1=a".repeat(11) + "1~", 34);
        errorPosition("1=a".repeat(11) + "12", 35);
        errorPosition("1=a".repeat(11) + "12=", 36);
        errorPosition("12=a".repeat(15), 48);
        x.drams(0, 0);
        check.is("35: a spell keeps none", 0, () -> write("a" + "!".repeat(22) + "=a"));
        check.is("35: it stays", 48, x::errorPosition);
        check.refuses("35: a refusal keeps none", () -> write("f=a"));
        check.is("35: it stays", 48, x::errorPosition);
        x.undo();
        check.is("35: undo leaves it", 48, x::errorPosition);
    }

    private void writeRefused() {
        fresh();
        check.refuses("7: no cauldron at all", () -> write("12=a"));
        why("7: a store in none", 5, 1);
        check.is("7: refused empties the input", 0, () -> x.account(8));
        x.drams(-99, 99);
        x.drams(-99, 99);
        check.refuses("7: takes from none", () -> write("12a+c-=f"));
        why("7: takes from none", 5, 3);
        check.refuses("7: stores in none", () -> write("12~!=c"));
        why("7: stores in none", 5, 3);
        for (int spell = 0; spell < 4; spell++) {
            check.is("7: number", spell, () -> write("a=b"));
        }
        check.refuses("7: the fifth, ahead of no cauldron", () -> write("f=f"));
        why("7: the fifth", 1, 4);
        check.is("7: refused empties the input", 0, () -> x.account(8));
        check.illegal("7: malformed ahead of refused", () -> write("f=g"));
        check.is("7: malformed keeps no reason", 1, () -> x.reason(false, false));
        check.is("7: changes", 6, () -> x.account(9));
    }

    private void erase() {
        fresh();
        x.drams(-99, 99);
        write("1=a");
        write("22=aa=a");
        write("a3+=a");
        x.cook(2);
        check.outside("8: none at 3", () -> x.erase(3));
        check.outside("8: none at -1", () -> x.erase(-1));
        check.is("8: left", 2, () -> x.erase(0));
        check.is("8: the later ones move", 4, () -> x.spellOf(0, 0));
        check.is("8: with how often they were cooked", 1, () -> x.spellOf(1, 4));
        check.is("8: not the other", 0, () -> x.spellOf(0, 4));
        check.outside("8: no third", () -> x.spellOf(2, 0));
        check.is("8: the last", 1, () -> x.erase(1));
        check.is("8: all", 0, () -> x.erase(0));
        check.outside("8: none at 0", () -> x.erase(0));
        check.is("8: how often spells were cooked stays", 1, () -> x.account(4));
        check.is("8: a new one", 0, () -> write("7=a"));
        check.is("8: was not cooked", 0, () -> x.spellOf(0, 4));
    }

    private void cook() {
        fresh();
        x.drams(-99, 99);
        x.drams(-99, 99);
        x.drams(-99, 99);
        x.pour(0, 10);
        x.pour(1, 3);
        write("ab-=cab*=b");
        check.is("9: two are different", 2, () -> x.cook(0));
        check.is("9: subtracted from the one ahead", 7, () -> x.cauldronOf(2, 3));
        check.is("9: multiplied", 30, () -> x.cauldronOf(1, 3));
        check.is("9: what is taken is not gone", 10, () -> x.cauldronOf(0, 3));
        write("a1=a=b");
        check.is("9: taken ahead of a store", 2, () -> x.cook(1));
        check.is("9: the old one", 10, () -> x.cauldronOf(1, 3));
        check.is("9: the new one", 1, () -> x.cauldronOf(0, 3));
        write("5=aa1+=aa1+=b");
        check.is("9: taken behind a store", 2, () -> x.cook(2));
        check.is("9: as stored", 6, () -> x.cauldronOf(0, 3));
        check.is("9: and once more", 7, () -> x.cauldronOf(1, 3));
        check.is("9: nothing else in them", 0, () -> x.cook(2));
        check.is("9: is a change all the same", 6, () -> x.account(9));
        check.is("9: cooked", 2, () -> x.spellOf(2, 4));
        check.is("9: stores", 10, () -> x.account(5));
        check.outside("9: none at 3", () -> x.cook(3));
        check.outside("9: none at -1", () -> x.cook(-1));
        write("90c+=c");
        check.is("9: whether it types or not", false, () -> x.types(3));
        check.is("9: is cooked", 1, () -> x.cook(3));
        check.is("9: within bounds", 97, () -> x.cauldronOf(2, 3));
    }

    private void boilsOver(String text, int place, int cause, int detail) {
        x.erase(0);
        write(text);
        check.is("23: " + text, place, () -> x.boils(0));
        check.refuses("9: " + text, () -> x.cook(0));
        whyBoiled("9: " + text, place, cause, detail);
        check.noElement("21: " + text, () -> x.would(0, 0));
        check.noElement("22: " + text, () -> x.wouldAgain(0, 0));
        check.is("24: " + text, 0, () -> x.lasts(0));
    }

    private void cookBoilsOver() {
        fresh();
        x.drams(-9, 20);
        x.drams(-99, 99);
        x.broth();
        write("1=a");
        boilsOver("bc+=b", 2, 7, -1);
        boilsOver("cb-=b", 2, 7, -1);
        boilsOver("cb*=b", 2, 7, -1);
        boilsOver("c~=c", 1, 7, -1);
        boilsOver("b!=b", 1, 7, -1);
        boilsOver("b=c", 1, 7, 2);
        boilsOver("c=b", 1, 7, 1);
        boilsOver("c=a", 1, 7, 0);
        boilsOver("21=a", 1, 3, 21);
        boilsOver("0010-=a", 3, 3, -10);
        boilsOver("99=bb1+=b", 5, 3, 100);
        boilsOver("00b-10-=a", 5, 3, -10);
        boilsOver(MILLION + "1+~=c", 12, 8, 1);
        boilsOver("00" + MILLION + "-1-~=c", 14, 8, -1);
        boilsOver("99=b" + MILLION + "99*~=c", 14, 8, 1);
        boilsOver("99=b" + MILLION + "0002-*~=c", 16, 8, -1);
        check.is("9: only that is counted", 16, () -> x.account(6));
        check.is("9: no store", 0, () -> x.account(5));
        check.is("9: not cooked", 0, () -> x.account(4));
        check.is("9: nothing stored ahead of it", 0, () -> x.cauldronOf(1, 3));
        x.erase(0);
        write(MILLION + "~=c");
        check.is("9: a million", 1, () -> x.cook(0));
        x.erase(0);
        write("00" + MILLION + "-~=c");
        check.is("9: a million below 0", 1, () -> x.cook(0));
    }

    private void cookBroth() {
        fresh();
        x.broth();
        x.broth();
        x.drams(-99, 99);
        write("99~99~*=a");
        check.is("9: reckoned in float", 1, () -> x.cook(0));
        check.is("9: 9801", 9801.0f, () -> x.cups(0));
        check.is("9: the same again", 0, () -> x.cook(0));
        write("9999*99*~=a00~a-=b");
        check.is("9: a cast is held", 2, () -> x.cook(1));
        check.is("9: at most", 9999.0f, () -> x.cups(0));
        check.is("9: at least", -9999.0f, () -> x.cups(1));
        write("aa+=ab1~-=b");
        check.is("9: a sum is held", 0, () -> x.cook(2));
        write("aa*=abb+=b");
        check.is("9: a product is held", 0, () -> x.cook(3));
        x.erase(0);
        write("aa-b*=b");
        check.is("9: a zero below zero has other bits", 1, () -> x.cook(3));
        check.is("9: below zero", Integer.MIN_VALUE, () -> x.bits(1));
        x.erase(0);
        write("b0~+=b");
        check.is("9: and above zero again", 1, () -> x.cook(3));
        check.is("9: above zero", 0, () -> x.bits(1));
        x.erase(0);
        write("a!=cb99~-99~-=b");
        check.is("9: a cast to drams", 2, () -> x.cook(3));
        check.is("9: is at most 99", 99, () -> x.cauldronOf(2, 3));
        x.erase(0);
        write("b!=c");
        x.cook(3);
        check.is("9: is at least -99", -99, () -> x.cauldronOf(2, 3));
        x.ladle(1, -399);
        x.cook(3);
        check.is("9: is cut towards 0", -3, () -> x.cauldronOf(2, 3));
        x.ladle(1, 399);
        x.cook(3);
        check.is("9: on both sides", 3, () -> x.cauldronOf(2, 3));
        x.ladle(1, 10);
        x.ladle(0, 20);
        x.erase(3);
        write("ba+=bba*=a");
        x.cook(3);
        check.is("9: a sum of floats", Float.floatToIntBits(0.1f + 0.2f), () -> x.bits(1));
        check.is("9: a product of floats", Float.floatToIntBits((0.1f + 0.2f) * 0.2f), () -> x.bits(0));
    }

    private void cookAll() {
        fresh();
        check.refuses("10: no spells", x::cookAll);
        why("10: no spells", 9, 0);
        x.drams(-99, 99);
        x.drams(-99, 99);
        write("a1+=a");
        write("a=b");
        check.is("10: one types", 1, x::cookAll);
        check.is("10: not the first", 0, () -> x.spellOf(0, 4));
        write("aa-7+=a");
        x.erase(0);
        x.erase(0);
        check.refuses("10: none types", x::cookAll);
        why("10: none types", 9, 1);
        x.erase(0);
        write("17=a");
        write("aa+=a");
        write("a=b");
        write("42=a");
        check.is("10: three type", 3, x::cookAll);
        check.is("10: one goes on from another", 17, () -> x.cauldronOf(1, 3));
        check.is("10: by their numbers", 42, () -> x.cauldronOf(0, 3));
        check.is("10: cooked", 1, () -> x.spellOf(2, 4));
        check.is("10: not cooked", 0, () -> x.spellOf(1, 4));
        check.is("10: all cooked", 4, () -> x.account(4));
        check.is("10: all stores", 4, () -> x.account(5));
        x.undo();
        check.is("10: is one change", 0, () -> x.cauldronOf(0, 3));
        check.is("10: refused is none", 5, () -> x.account(9));
    }

    private void cauldronOf() {
        fresh();
        x.drams(-9, 20);
        x.broth();
        x.drams(5, 5);
        x.pour(0, -4);
        x.ladle(1, -250);
        check.is("11: drams", 0, () -> x.cauldronOf(0, 0));
        check.is("11: broth", 1, () -> x.cauldronOf(1, 0));
        check.is("11: lowest", -9, () -> x.cauldronOf(0, 1));
        check.is("11: lowest of broth", -99, () -> x.cauldronOf(1, 1));
        check.is("11: highest", 20, () -> x.cauldronOf(0, 2));
        check.is("11: highest of broth", 99, () -> x.cauldronOf(1, 2));
        check.is("11: what is in it", -4, () -> x.cauldronOf(0, 3));
        check.is("11: cut", -2, () -> x.cauldronOf(1, 3));
        check.is("11: nothing stored", 0, () -> x.cauldronOf(0, 4));
        write("3=a4=aaa+=cc5+=a");
        write("aa-=a");
        write("a~=b");
        check.is("11: spells that take", 3, () -> x.cauldronOf(0, 5));
        check.is("11: once a spell", 1, () -> x.cauldronOf(2, 5));
        check.is("11: none takes", 0, () -> x.cauldronOf(1, 5));
        check.is("11: spells that store", 2, () -> x.cauldronOf(0, 6));
        check.is("11: one stores", 1, () -> x.cauldronOf(1, 6));
        check.refuses("11: boils over", () -> x.cook(0));
        check.is("11: which stores nothing", 0, () -> x.cauldronOf(0, 4));
        x.cook(1);
        x.cook(1);
        check.is("11: stores", 2, () -> x.cauldronOf(0, 4));
        x.erase(1);
        check.is("11: stores of an erased one", 2, () -> x.cauldronOf(0, 4));
        check.is("11: an erased one takes nothing", 2, () -> x.cauldronOf(0, 5));
        x.bounds(0, -9, 9);
        check.is("11: bounds leave the stores", 2, () -> x.cauldronOf(0, 4));
        check.illegal("11: what -1", () -> x.cauldronOf(0, -1));
        check.illegal("11: what 7", () -> x.cauldronOf(0, 7));
        check.outside("11: none at 3, ahead of what", () -> x.cauldronOf(3, 7));
        check.outside("11: none at -1", () -> x.cauldronOf(-1, 0));
    }

    private void cupsAndBits() {
        fresh();
        x.drams(-99, 99);
        x.broth();
        x.ladle(1, 250);
        check.is("12: cups", 2.5f, () -> x.cups(1));
        check.noElement("12: drams", () -> x.cups(0));
        check.outside("12: none at 2", () -> x.cups(2));
        check.outside("12: none at -1", () -> x.cups(-1));
        for (int many = -99; many < 100; many++) {
            int drams = many;
            x.pour(0, drams);
            check.is("13: drams", Float.floatToIntBits(drams), () -> x.bits(0));
        }
        for (int hundredths = -9999; hundredths < 10000; hundredths += 271) {
            int number = hundredths;
            x.ladle(1, number);
            check.is("13: broth", Float.floatToIntBits(number / 100.0f), () -> x.bits(1));
        }
        check.outside("13: none at 2", () -> x.bits(2));
        check.outside("13: none at -1", () -> x.bits(-1));
        smallBits();
        denormalBits(1);
        denormalBits(-1);
    }

    private void smallBits() {
        fresh();
        x.broth();
        x.ladle(0, 1);
        write("aa*=a");
        write("00~a-=a");
        write("a3~*=a");
        float small = 0.01f;
        for (int round = 0; round < 4; round++) {
            x.cook(0);
            small = small * small;
            check.is("13: a small float", Float.floatToIntBits(small), () -> x.bits(0));
            check.is("31: a small float", Double.doubleToLongBits(small), x::meanBits);
        }
        x.cook(1);
        x.cook(2);
        small = (0.0f - small) * 3.0f;
        check.is("13: a small one below 0", Float.floatToIntBits(small), () -> x.bits(0));
        check.is("31: a small one below 0", Double.doubleToLongBits(small), x::meanBits);
    }

    private void denormalBits(int hundredths) {
        fresh();
        x.broth();
        x.broth();
        x.ladle(0, hundredths);
        x.ladle(1, 1);
        write("ab*=a");
        float product = (float) hundredths / 100.0f;
        for (int round = 0; round < 24; round++) {
            x.cook(0);
            product = product * 0.01f;
            check.is("13: towards 0", Float.floatToIntBits(product), () -> x.bits(0));
            double mean = ((double) product + (double) 0.01f) / 2.0;
            check.is("31: towards 0", Double.doubleToLongBits(mean), x::meanBits);
        }
        check.is("13: 0", 0, () -> x.bits(0) & Integer.MAX_VALUE);
        check.is("13: its sign", hundredths < 0, () -> x.bits(0) < 0);
        check.is("11: 0", 0, () -> x.cauldronOf(0, 3));
    }

    private void spellOfAndToken() {
        fresh();
        x.drams(-99, 99);
        write("07a+12*=a");
        write("1=a2aa5=a=a-=a");
        write("a~!=a");
        check.is("14: tokens", 6, () -> x.spellOf(0, 0));
        check.is("14: stores", 1, () -> x.spellOf(0, 1));
        check.is("14: spoons", 2, () -> x.spellOf(0, 2));
        check.is("14: many tokens", 10, () -> x.spellOf(1, 0));
        check.is("14: many stores", 4, () -> x.spellOf(1, 1));
        check.is("14: many spoons", 4, () -> x.spellOf(1, 2));
        check.is("14: does not type", 0, () -> x.spellOf(0, 3));
        check.is("14: types", 1, () -> x.spellOf(2, 3));
        check.is("14: not cooked", 0, () -> x.spellOf(0, 4));
        x.cook(0);
        check.refuses("14: boils over", () -> x.cook(0));
        check.is("14: cooked once", 1, () -> x.spellOf(0, 4));
        check.illegal("14: what 5", () -> x.spellOf(0, 5));
        check.illegal("14: what -1", () -> x.spellOf(0, -1));
        check.outside("14: none at 3, ahead of what", () -> x.spellOf(3, 5));
        check.outside("14: none at -1", () -> x.spellOf(-1, 0));
        String firsts = "0a+1*=";
        for (int place = 0; place < 6; place++) {
            int number = place;
            check.is("15: first character", firsts.charAt(place), () -> x.token(0, number));
        }
        check.noElement("15: no place 6", () -> x.token(0, 6));
        check.noElement("15: no place -1", () -> x.token(0, -1));
        check.outside("15: none at 3", () -> x.token(3, 99));
        check.outside("15: none at -1", () -> x.token(-1, 0));
    }

    private void fault(String text, int place) {
        x.erase(0);
        write(text);
        check.is("16: " + text, false, () -> x.types(0));
        check.is("17: " + text, false, () -> x.typesAgain(0));
        check.is("18: " + text, place, () -> x.fault(0));
        check.noElement("19: " + text, () -> x.bound(0, 0, true));
    }

    private void noFault(String text) {
        x.erase(0);
        write(text);
        check.is("16: " + text, true, () -> x.types(0));
        check.is("17: " + text, true, () -> x.typesAgain(0));
        check.noElement("18: " + text, () -> x.fault(0));
    }

    private void types() {
        fresh();
        x.drams(-9, 20);
        x.drams(-99, 99);
        x.broth();
        write("1=a");
        noFault("20=a");
        fault("21=a", 1);
        noFault("a=b");
        fault("b=a", 1);
        fault("1=ab=a", 3);
        fault("12=bb=a", 3);
        noFault("0009-=a");
        fault("0010-=a", 3);
        fault("ab+=b", 3);
        noFault("a40+a-a40+-=b");
        noFault("c!=b");
        fault("c!=a", 2);
        fault("c~=c", 1);
        fault("a!=a", 1);
        noFault("a~=c");
        fault("a=c", 1);
        fault("c=a", 1);
        fault("c=b", 1);
        fault("ac+=a", 2);
        fault("ca-=c", 2);
        fault("ac*=c", 2);
        noFault("cc*c-c+=ccc*!=b");
        noFault(MILLION + "~=c");
        fault(MILLION + "1+~=c", 12);
        noFault("00" + MILLION + "-~=c");
        fault("00" + MILLION + "-1-~=c", 14);
        noFault("ab*99*5*~=c");
        fault("ab*99*6*~=c", 6);
        fault("00ab*99*6*-~=c", 7);
        fault("1=a2=ab=ac=a", 5);
        noFault("ab=b=b");
        fault("ba=b=a", 3);
        fault("aca=b=b=b", 4);
        check.outside("16: none at 1", () -> x.types(1));
        check.outside("16: none at -1", () -> x.types(-1));
        check.outside("17: none at 1", () -> x.typesAgain(1));
        check.outside("17: none at -1", () -> x.typesAgain(-1));
        check.outside("18: none at 1", () -> x.fault(1));
        check.outside("18: none at -1", () -> x.fault(-1));
    }

    private void isBounded(String what, int store, int low, int high) {
        check.is("19: lowest of " + what, low, () -> x.bound(0, store, false));
        check.is("19: highest of " + what, high, () -> x.bound(0, store, true));
    }

    /** Sets the cauldron e up with these bounds, and with drams in it that the next bounds hold too. */
    private void boundsOfE(int low, int high, int many) {
        x.bounds(4, -99, 99);
        x.pour(4, many);
        x.bounds(4, low, high);
    }

    private void typesBoth(String what, boolean due) {
        check.is("16: " + what, due, () -> x.types(0));
        check.is("17: " + what, due, () -> x.typesAgain(0));
    }

    /** Looks whether the drams of the text fit just so, in a cauldron of these bounds and in no narrower one. */
    private void bounded(String text, int low, int high) {
        x.erase(0);
        write(text + "=e");
        boundsOfE(low, high, low);
        typesBoth(text, true);
        isBounded(text, 0, low, high);
        if (low < high) {
            boundsOfE(low, high - 1, low);
            typesBoth(text + " below the highest", false);
            boundsOfE(low + 1, high, high);
            typesBoth(text + " above the lowest", false);
        }
    }

    private void bound() {
        fresh();
        x.drams(-3, 5);
        x.drams(-99, 99);
        x.broth();
        x.drams(2, 7);
        x.drams(-99, 99);
        write("1=a");
        bounded("a", -3, 5);
        bounded("17", 17, 17);
        bounded("07", 7, 7);
        bounded("ad+", -1, 12);
        bounded("ad-", -10, 3);
        bounded("da-", -3, 10);
        bounded("ad*", -21, 35);
        bounded("aa*", -15, 25);
        bounded("a0003-*", -15, 9);
        bounded("00d-a*", -35, 21);
        bounded("a00d-*", -35, 21);
        bounded("00d-00d-*", 4, 49);
        bounded("dd*", 4, 49);
        bounded("d00d-*", -49, -4);
        bounded("00d-d*", -49, -4);
        bounded("c!", -99, 99);
        bounded("c!0*", 0, 0);
        bounded("a" + "~!".repeat(11), -99, 99);
        x.erase(0);
        write("1=ba=bc=cd=b");
        isBounded("the first store", 0, 1, 1);
        isBounded("the second store", 1, -3, 5);
        isBounded("the fourth store", 3, 2, 7);
        check.noElement("19: broth", () -> x.bound(0, 2, true));
        check.noElement("19: no store 4", () -> x.bound(0, 4, true));
        check.noElement("19: no store -1", () -> x.bound(0, -1, false));
        check.outside("19: none at 1", () -> x.bound(1, 0, true));
        check.outside("19: none at -1", () -> x.bound(-1, 0, true));
        x.erase(0);
        write("da=b=b");
        isBounded("the last spoon", 0, -3, 5);
        isBounded("the spoon below", 1, 2, 7);
        fault("a=bb=a", 3);
    }

    private void typed() {
        fresh();
        x.drams(-9, 20);
        x.drams(-99, 99);
        check.is("20: none", 0, x::typed);
        write("b=a");
        check.is("20: not one", 0, x::typed);
        write("a=b");
        write("a=a");
        check.is("20: two", 2, x::typed);
        x.bounds(1, -9, 20);
        check.is("20: three", 3, x::typed);
        x.erase(1);
        check.is("20: one less", 2, x::typed);
    }

    private void wouldBoth(int spell, int cauldron, int due) {
        check.is("21: would", due, () -> x.would(spell, cauldron));
        check.is("22: wouldAgain", due, () -> x.wouldAgain(spell, cauldron));
    }

    private void would() {
        fresh();
        x.drams(-99, 99);
        x.drams(-99, 99);
        x.broth();
        x.drams(-99, 99);
        x.pour(0, 4);
        x.pour(3, -8);
        x.ladle(2, 275);
        write("a2*=ba3-b*=d");
        wouldBoth(0, 0, 4);
        wouldBoth(0, 1, 8);
        wouldBoth(0, 2, 2);
        wouldBoth(0, 3, 8);
        check.is("21: nothing is cooked", 0, () -> x.cauldronOf(1, 3));
        check.is("21: nor counted", 0, () -> x.account(4));
        write("a1=ac!=bcc*=c=d");
        wouldBoth(1, 0, 1);
        wouldBoth(1, 1, 2);
        wouldBoth(1, 2, 7);
        wouldBoth(1, 3, 4);
        write("aa+=a".repeat(5));
        x.pour(0, 4);
        check.noElement("21: boils over", () -> x.would(2, 1));
        check.noElement("22: boils over", () -> x.wouldAgain(2, 1));
        check.is("23: at the last store", 19, () -> x.boils(2));
        x.pour(0, 3);
        wouldBoth(2, 0, 96);
        x.erase(0);
        write("a" + "~!".repeat(11) + "=b");
        wouldBoth(2, 1, 3);
        x.erase(1);
        write("3a4aa-*+*=b");
        wouldBoth(2, 1, 9);
        x.erase(0);
        write("aa+=a".repeat(5));
        check.is("21: counts nothing", 0, () -> x.account(6));
        check.noElement("21: keeps no reason", () -> x.reason(false, false));
        check.outside("21: no spell 3", () -> x.would(3, 0));
        check.outside("21: no spell -1", () -> x.would(-1, 0));
        check.outside("21: no cauldron 4", () -> x.would(0, 4));
        check.outside("21: no cauldron -1", () -> x.would(0, -1));
        check.outside("22: no spell 3", () -> x.wouldAgain(3, 0));
        check.outside("22: no spell -1", () -> x.wouldAgain(-1, 0));
        check.outside("22: no cauldron 4", () -> x.wouldAgain(0, 4));
        check.outside("22: no cauldron -1", () -> x.wouldAgain(0, -1));
        x.pour(0, 99);
        check.outside("21: no cauldron, ahead of boiling over", () -> x.would(2, 4));
        check.outside("22: no cauldron, ahead of boiling over", () -> x.wouldAgain(2, 4));
    }

    private void boilsAndLasts() {
        fresh();
        x.drams(-99, 99);
        x.broth();
        write("a2+=a");
        check.noElement("23: does not boil over", () -> x.boils(0));
        check.is("24: until it boils over", 49, () -> x.lasts(0));
        x.pour(0, -1);
        check.is("24: just 50", 50, () -> x.lasts(0));
        x.pour(0, -99);
        check.is("24: 50 at most", 50, () -> x.lasts(0));
        check.is("24: only in thought", -99, () -> x.cauldronOf(0, 3));
        x.pour(0, 99);
        check.is("24: boils over now", 0, () -> x.lasts(0));
        check.is("23: boils over now", 3, () -> x.boils(0));
        check.is("23: counts nothing", 0, () -> x.account(6));
        write("b0~1~-*=b");
        check.is("24: bits that turn for ever", 50, () -> x.lasts(1));
        write("7=a");
        check.is("24: until nothing is different", 1, () -> x.lasts(2));
        x.pour(0, 7);
        check.is("24: nothing is different", 0, () -> x.lasts(2));
        write("8=a7=a");
        check.is("24: nothing is different behind it", 0, () -> x.lasts(3));
        check.outside("23: none at 4", () -> x.boils(4));
        check.outside("23: none at -1", () -> x.boils(-1));
        check.outside("24: none at 4", () -> x.lasts(4));
        check.outside("24: none at -1", () -> x.lasts(-1));
    }

    private void ranks(int... due) {
        for (int place = 0; place < due.length; place++) {
            int number = place;
            check.is("25: place " + place, due[place], () -> x.ranked(number));
        }
        check.noElement("25: no more places", () -> x.ranked(due.length));
        check.noElement("25: no place -1", () -> x.ranked(-1));
    }

    private void ranked() {
        fresh();
        x.drams(-99, 99);
        ranks();
        write("aa+=a");
        ranks(0);
        write("12=a23=a");
        ranks(1, 0);
        write("a=a");
        ranks(2, 1, 0);
        write("a1+=a");
        ranks(2, 1, 0, 3);
        x.erase(0);
        write("1=a2=a");
        ranks(1, 0, 3, 2);
    }

    private void widest() {
        fresh();
        check.noElement("26: none", x::widest);
        x.broth();
        check.noElement("26: only broth", x::widest);
        x.drams(4, 4);
        check.is("26: no room, but of drams", 1, x::widest);
        x.drams(-5, 5);
        check.is("26: the most room", 2, x::widest);
        x.drams(80, 90);
        check.is("26: the lowest of several", 2, x::widest);
        x.drams(-99, 99);
        check.is("26: another", 4, x::widest);
        x.bounds(4, 0, 0);
        check.is("26: by the bounds now", 2, x::widest);
    }

    private void isSafe() {
        fresh();
        check.is("27: without spells", true, x::isSafe);
        x.drams(-9, 9);
        x.broth();
        write("ab+=a");
        check.is("27: one that does not type boils over", true, x::isSafe);
        write("a=a");
        check.is("27: one that types does not", true, x::isSafe);
    }

    private void lines() {
        fresh();
        x.drams(-9, 5);
        x.broth();
        x.pour(0, -3);
        write("07a+12*=aa~=b");
        check.is("28: length", 13, () -> x.tell(0));
        check.same("28: as it was in the input", "07a+12*=aa~=b", line(13));
        check.noElement("30: none behind it", () -> x.character(13));
        check.noElement("30: none at -1", () -> x.character(-1));
        check.is("29: length", 10, () -> x.tellCauldron(0));
        check.same("29: drams", "a:-3[-9,5]", line(10));
        check.noElement("30: the line before is gone", () -> x.character(10));
        x.ladle(1, -1299);
        check.is("29: length of broth", 6, () -> x.tellCauldron(1));
        check.same("29: broth", "b:-12~", line(6));
        check.outside("29: none at 2", () -> x.tellCauldron(2));
        check.outside("29: none at -1", () -> x.tellCauldron(-1));
        check.outside("28: none at 1", () -> x.tell(1));
        check.outside("28: none at -1", () -> x.tell(-1));
        check.same("28: the line stays", "b:-12~", line(6));
        x.ladle(1, -50);
        check.same("30: the line stays as it was", "b:-12~", line(6));
        x.tellCauldron(1);
        check.same("29: cut to 0", "b:0~", line(4));
        x.undo();
        check.same("30: undo leaves the line", "b:0~", line(4));
    }

    private void meanBits() {
        fresh();
        check.is("31: none", "throws ArithmeticException", x::meanBits);
        x.drams(-99, 99);
        check.is("31: 0", 0L, x::meanBits);
        x.pour(0, -7);
        check.is("31: one", Double.doubleToLongBits(-7.0), x::meanBits);
        x.broth();
        x.ladle(1, 1);
        check.is("31: two", Double.doubleToLongBits((-7.0 + (double) 0.01f) / 2.0), x::meanBits);
        x.broth();
        x.ladle(2, -3333);
        check.is("31: three", Double.doubleToLongBits((-7.0 + (double) 0.01f + (double) -33.33f) / 3.0), x::meanBits);
        for (int hundredths = -9000; hundredths < 9999; hundredths += 1777) {
            float cups = hundredths / 100.0f;
            x.ladle(2, hundredths);
            check.is("31: many", Double.doubleToLongBits((-7.0 + (double) 0.01f + (double) cups) / 3.0), x::meanBits);
        }
    }

    private void typedShare() {
        fresh();
        check.is("32: none", "throws ArithmeticException", x::typedShare);
        x.drams(-9, 9);
        write("10=a");
        check.is("32: none types", 0.0f, x::typedShare);
        write("9=a");
        check.is("32: one of two", 0.5f, x::typedShare);
        write("8=a");
        check.is("32: two of three", 2.0f / 3.0f, x::typedShare);
        x.erase(0);
        check.is("32: all", 1.0f, x::typedShare);
    }

    private void accounts(int... due) {
        for (int account = 0; account < due.length; account++) {
            int number = account;
            check.is("33: account " + account, due[account], () -> x.account(number));
        }
    }

    private void account() {
        fresh();
        x.drams(-9, 20);
        x.broth();
        x.drams(3, 50);
        x.broth();
        x.ladle(1, 777);
        x.pour(0, -4);
        write("12=c13=c");
        write("c=a");
        write("a=b");
        x.append(' ');
        x.append('~');
        accounts(4, 3, 1, 2, 0, 0, 0, -1, 2, 6);
        x.cook(0);
        x.cook(1);
        check.refuses("33: boils over", () -> x.cook(2));
        check.noElement("33: only in thought", () -> x.would(2, 0));
        check.is("33: all that type", 1, x::cookAll);
        accounts(4, 3, 1, 2, 3, 5, 1, 26, 2, 6);
        x.erase(0);
        accounts(4, 2, 0, 2, 3, 5, 1, 26, 2, 6);
        check.illegal("33: account 10", () -> x.account(10));
        check.illegal("33: account -1", () -> x.account(-1));
    }

    private void append() {
        fresh();
        check.illegal("34: code 31", () -> x.append((char) 31));
        check.illegal("34: code 127", () -> x.append((char) 127));
        check.illegal("34: code 353, which is a and 256", () -> x.append((char) 353));
        check.is("34: code 32", 1, () -> x.append((char) 32));
        check.is("34: code 126", 2, () -> x.append((char) 126));
        for (int length = 3; length <= 60; length++) {
            check.is("34: new length", length, () -> x.append('a'));
        }
        check.is("34: the input is full", "throws IllegalStateException", () -> x.append('a'));
        check.illegal("34: illegal ahead of full", () -> x.append((char) 31));
        check.is("34: it stays", 60, () -> x.account(8));
        check.is("34: no change", 0, () -> x.account(9));
        check.illegal("34: a blank is no token", x::write);
        check.is("34: at 0", 0, x::errorPosition);
        check.is("34: empty again", 1, () -> x.append('a'));
    }

    private void reason() {
        fresh();
        check.noElement("36: no reason", () -> x.reason(false, false));
        check.noElement("36: no detail", () -> x.reason(false, true));
        check.noElement("36: no cause", () -> x.reason(true, false));
        check.noElement("36: no detail of a cause", () -> x.reason(true, true));
        x.drams(-9, 20);
        x.broth();
        write("b=a");
        check.refuses("36: boils over", () -> x.cook(0));
        whyBoiled("36", 1, 7, 0);
        x.pour(0, 1);
        x.undo();
        x.save();
        x.restore();
        whyBoiled("36: it stays", 1, 7, 0);
        check.refuses("36: another reason", () -> x.pour(0, 21));
        why("36: without a cause", 3, 21);
    }

    private void undo() {
        fresh();
        check.noElement("37: nothing", x::undo);
        x.drams(-9, 20);
        x.broth();
        x.pour(0, 7);
        x.ladle(1, 50);
        x.bounds(0, 7, 8);
        check.is("33: five changes", 5, () -> x.account(9));
        write("a=a1~=b");
        check.illegal("37: no spell", () -> write("a"));
        check.refuses("37: no cauldron", () -> write("c=c"));
        check.outside("37: nothing erased", () -> x.erase(1));
        check.refuses("37: not held", () -> x.pour(0, 9));
        check.is("37: which are no changes", 6, () -> x.account(9));
        x.cook(0);
        x.cookAll();
        x.erase(0);
        check.is("37: no more than 6", 6, () -> x.account(9));
        check.is("37: erase", 5, x::undo);
        check.is("37: the spell is back", 2, () -> x.spellOf(0, 4));
        check.is("37: cookAll", 4, x::undo);
        check.is("37: cooked once", 1, () -> x.spellOf(0, 4));
        check.is("37: cooked so far", 1, () -> x.account(4));
        check.is("37: stores so far", 2, () -> x.account(5));
        check.is("37: stores in one", 1, () -> x.cauldronOf(0, 4));
        check.is("37: cook", 3, x::undo);
        check.is("37: not cooked", 0, () -> x.account(4));
        check.is("37: what was in it", 0.5f, () -> x.cups(1));
        check.is("37: write", 2, x::undo);
        check.is("37: no spell", 0, () -> x.account(1));
        check.is("37: bounds", 1, x::undo);
        check.is("37: the lowest", -9, () -> x.cauldronOf(0, 1));
        check.is("37: the highest", 20, () -> x.cauldronOf(0, 2));
        check.is("37: ladle", 0, x::undo);
        check.is("37: nothing ladled", 0.0f, () -> x.cups(1));
        check.noElement("37: the oldest are forgotten", x::undo);
        check.is("37: poured", 7, () -> x.cauldronOf(0, 3));
        x.drams(1, 2);
        check.is("37: a new change", 0, x::undo);
        check.is("37: is undone", 2, () -> x.account(0));
    }

    private void undoLeaves() {
        fresh();
        x.drams(0, 9);
        write("a1+=a");
        x.pour(0, 9);
        check.refuses("37: boils over", () -> x.cook(0));
        check.illegal("37: malformed", () -> write("aa"));
        x.tell(0);
        x.append('7');
        x.save();
        x.pour(0, 3);
        check.is("37: undone", 3, x::undo);
        check.is("37: as it was", 9, () -> x.cauldronOf(0, 3));
        check.is("37: the input is left", 1, () -> x.account(8));
        check.is("37: how often spells boiled over is left", 1, () -> x.account(6));
        check.same("37: the line is left", "a1+=a", line(5));
        check.is("37: the error position is left", 2, x::errorPosition);
        whyBoiled("37: the reason is left", 3, 3, 10);
        x.undo();
        x.undo();
        check.is("37: no spell", 0, () -> x.account(1));
        check.is("37: what was saved is left", 1, x::restore);
        check.is("39: the spell is back", 5, () -> x.tell(0));
        check.is("39: what was in it", 9, () -> x.cauldronOf(0, 3));
    }

    private void saveAndRestore() {
        fresh();
        check.is("39: nothing saved", "throws IllegalStateException", x::restore);
        check.is("38: without spells", 0, x::save);
        x.drams(-9, 20);
        x.broth();
        write("7=a");
        x.cook(0);
        check.is("38: one spell", 1, x::save);
        check.is("38: is no change", 4, () -> x.account(9));
        x.pour(0, -1);
        x.ladle(1, 1);
        x.bounds(0, -1, 1);
        check.refuses("39: boils over", () -> x.cook(0));
        write("a=a");
        x.cookAll();
        x.tellCauldron(0);
        check.is("39: spells", 1, x::restore);
        check.is("39: one cooked", 1, () -> x.account(4));
        check.is("39: one store", 1, () -> x.account(5));
        check.is("39: in this one", 1, () -> x.cauldronOf(0, 4));
        check.is("39: of this spell", 1, () -> x.spellOf(0, 4));
        check.is("39: what was in it", 7, () -> x.cauldronOf(0, 3));
        check.is("39: its bounds", -9, () -> x.cauldronOf(0, 1));
        check.is("39: the broth", 0.0f, () -> x.cups(1));
        check.is("39: how often spells boiled over is left", 1, () -> x.account(6));
        check.same("39: the line is left", "a:-1[-1,1]", line(10));
        whyBoiled("39: the reason is left", 1, 3, 7);
        check.noElement("39: all changes are forgotten", x::undo);
        x.erase(0);
        check.is("39: it stays saved", 1, x::restore);
        check.is("39: is no change", 0, () -> x.account(9));
        x.erase(0);
        check.is("38: in place of what was saved", 0, x::save);
        check.is("38: undo", 0, x::undo);
        check.is("39: the newer one", 0, x::restore);
        check.is("39: has no spell", 0, () -> x.account(1));
        check.is("39: but two cauldrons", 2, () -> x.account(0));
        restoreKinds();
    }

    private void restoreKinds() {
        fresh();
        x.broth();
        x.drams(3, 4);
        x.save();
        x.undo();
        x.undo();
        x.drams(-7, 7);
        x.broth();
        check.is("39: without spells", 0, x::restore);
        check.is("39: broth again", 1, () -> x.cauldronOf(0, 0));
        check.is("39: its lowest", -99, () -> x.cauldronOf(0, 1));
        check.is("39: drams again", 0, () -> x.cauldronOf(1, 0));
        check.is("39: its highest", 4, () -> x.cauldronOf(1, 2));
        check.is("39: what is in it", 3, () -> x.cauldronOf(1, 3));
    }
}
