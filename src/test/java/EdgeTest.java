/** The edges that the document's sentences name, promise by promise; FullEmptyTest and RangeTest have more. */
public final class EdgeTest {
  public static void main(String[] args) {
    Check check = new Check();
    new EdgesOfText(check).all();
    new EdgesAtSea(check).all();
    new EdgesOfCrews(check).all();
    new EdgesInMind(check).all();
    new EdgesOfLists(check).all();
    new EdgesOfShelves(check).all();
    check.end("EdgeTest");
  }
}
