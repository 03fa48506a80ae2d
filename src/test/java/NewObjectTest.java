/** Promise 1. */
public final class NewObjectTest {
    public static void main(String[] args) {
        ItWasLikeThat x = new ItWasLikeThat();
        int[] want = {3, 4, 0, 0, 0, 0, 0, 0, 0, 0, -9, 0, 0, 0, 0, 0, 0, -9};
        for (int what = 0; what < want.length; what++) {
            Due.due("count(" + what + ")", x.count(what), want[what]);
        }
        Due.due("chance(4, 0)", x.chance(4, 0), 2);
        Due.due("chance(5, 0)", x.chance(5, 0), 1);
        Due.due("chance(6, 0)", x.chance(6, 0), 1);
        Due.due("restore()", x.restore(), -3);
        Due.due("hush()", x.hush(), 0);
        Due.due("judge()", x.judge(), -9);
        Due.due("door(0, 1)", x.door(0, 1), 0);
        Due.due("door(1, 2)", x.door(1, 2), 0);
        Due.due("door(0, 2)", x.door(0, 2), 0);
        Due.due("was(0, 0)", x.was(0, 0), -1);
        Due.end();
    }
}
