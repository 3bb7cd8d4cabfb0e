public final class SmokeTest {
    public static void main(String[] args) {
        Check check = new Check("SmokeTest");
        check.due("NONE", FoldRoads.NONE, -1);
        check.due("valley", Texts.valley(new FoldRoads(), Texts.FACE), 14);
        check.finish();
    }
}
